/** Each promise by hand: what is ordinary, the edges that the document names, and wrong inputs. */
public final class PromiseTest {
    /**
     * Three rooms of 4, 2 and 0, four people, five meetings: 0 in hour 0 (people 0, 1), 1 in hour 0 (person 2), 2 in
     * hour 1 (people 0, 2), 3 in hour 2 (nobody), 4 fixed in hour 3 (people 0, 1, 3).
     */
    private static final String HOUSE = "hours 5;room 4;room 2;room 0;"
        + "person 1 0;person 2 1;person 3 2;person 0 9;busy 2 3 4;busy 2 4 4;"
        + "meet 0 0 10;meet 0 1 20;meet 1 0 30;meet 2 2 40;meet 3 0 50;"
        + "who 0 0;who 0 1;who 0 1;who 1 2;who 2 0;who 2 2;who 4 0;who 4 1;who 4 3;"
        + "may 1 0 1;may 1 3 3;fixed 4;moved 2 9;moved 2 3;hold 4 1 4 5;hold 2 1 10 2;hold 4 0 0 99;";

    private static final Checks checks = new Checks();
    private static YieldedHours x;

    private static void due(String what, long want, Checks.Call call) {
        checks.due(what, want, call);
    }

    private static void noSuch(String what, Checks.Call call) {
        checks.noSuch(what, call);
    }

    private static void wrongArgument(String what, Checks.Call call) {
        checks.wrongArgument(what, call);
    }

    private static void tell(String house) {
        x = Checks.told(house);
    }

    private static int bit(boolean so) {
        return so ? 1 : 0;
    }

    public static void main(String[] args) {
        newObject();
        feed();
        house();
        houseForgets();
        houseFaults();
        houseLimits();
        target();
        targetFaults();
        rule();
        ruleFaults();
        told();
        meetingAndPerson();
        atAndWhere();
        clash();
        free();
        move();
        drop();
        undo();
        holds();
        fits();
        fitsOfFixed();
        fitsTies();
        swapAndRings();
        linesAndApart();
        order();
        begin();
        waits();
        knot();
        news();
        follow();
        pair();
        drops();
        gap();
        fair();
        yields();
        yieldsReckons();
        pushes();
        pushEnds();
        push();
        week();
        done();
        span();
        image();
        status();
        count();
        checks.end();
    }

    private static void newObject() {
        x = new YieldedHours();
        due("1 hours", 8, () -> x.told(0));
        for (int i = 1; i <= 6; i++) {
            int what = i;
            due("1 told " + i, 0, () -> x.told(what));
        }
        due("1 bytes", 0, () -> x.count(1));
        due("1 fault", -1, () -> x.fault());
        noSuch("1 meeting", () -> x.meeting(0, 0));
        due("1 none", -1, () -> YieldedHours.NONE);
    }

    private static void feed() {
        x = new YieldedHours();
        for (int i = 1; i <= 30; i++) {
            due("2 feed", 20 * i, () -> x.feed(0x20202020, 0x20202020, 0x20202020, 0x20202020, 0x20202020));
        }
        due("2 a 601st", -1, () -> x.feed(-1, -1, -1, -1, -1));
        due("2 did nothing", 600, () -> x.count(1));
        due("2 blanks alone", 0, () -> x.house(600));
        due("2 empty then", 0, () -> x.count(1));
        // highest byte first: "room 7;" stands across the numbers
        x.feed(0x726f6f6d, 0x20373b00, 0, 0, 0);
        due("2 order of bytes", 0, () -> x.house(7));
        due("2 the room", 1, () -> x.told(1));
        x.feed(0x80ffffff, -1, -1, -1, -1);
        due("2 bytes above 127", -9, () -> x.house(20));
    }

    private static void house() {
        tell(HOUSE);
        due("3 again", 5, () -> Checks.house(x, HOUSE));
        Checks.target(x, "0 1 1;");
        Checks.rule(x, "1=1");
        x.move(3, 4, 2);
        x.image();
        x.let(0);
        due("3 faulty", -9, () -> Checks.house(x, "hours 3;nonsense"));
        due("3 its fault", 8, () -> x.fault());
        due("3 all stays: hours", 5, () -> x.told(0));
        due("3 all stays: the target", 1, () -> x.told(5));
        due("3 all stays: the rule", 1, () -> bit(x.yields(0, 1)));
        due("3 all stays: images, acts", 11, () -> 10 * x.count(0) + x.count(2));
        due("3 all stays: holds", 0, () -> x.hold(0, 3));
        due("3 but the tape", 0, () -> x.count(1));
        due("3 a right one", 5, () -> Checks.house(x, HOUSE));
        due("3 no target", 0, () -> x.told(5));
        due("3 no rule", 0, () -> bit(x.yields(0, 1)));
        due("3 no images, no acts", 0, () -> 10 * x.count(0) + x.count(2));
        due("3 held", 1, () -> x.hold(0, 3));
        due("3 no fault", -1, () -> x.fault());
        x.feed(1, 2, 3, 4, 5);
        wrongArgument("3 more than the tape has", () -> x.house(21));
        wrongArgument("3 below 0", () -> x.house(-1));
        due("3 the tape stays", 20, () -> x.count(1));
        due("3 none of it", 0, () -> x.house(0));
        due("3 the tape is empty", 0, () -> x.count(1));
        due("3 without hours", 8, () -> x.told(0));
        due("3 blanks anywhere", 1, () -> Checks.house(x, "  hours3 ;  room  1 ;meet 2 0 0;may0 1 2 ;  "));
        due("3 many digits", 0, () -> Checks.house(x, "hours 00000000000000000007;"));
        due("3 of it", 7, () -> x.told(0));
    }

    /** Nothing of a house that was told earlier, or that had a fault, may shine through. */
    private static void houseForgets() {
        String rich = "hours 3;room 9;person 1 1;meet 0 0 5;who 0 0;busy 0 1 1;may 0 0 1;fixed 0;moved 0 7;hold 1 0 9 9;";
        String bare = "room 9;person 0 0;meet 0 0 0;";
        tell(rich);
        Checks.house(x, rich);
        Checks.house(x, rich + "?");
        for (int i = 0; i < 3; i++) {
            due("3 bare", 1, () -> Checks.house(x, bare));
            due("3 hours as without", 8, () -> x.told(0));
            due("3 no holds", 0, () -> x.told(4));
            due("3 not fixed", 0, () -> x.meeting(0, 3));
            due("3 not moved", 0, () -> x.meeting(0, 4));
            due("3 nobody in it", 0, () -> x.meeting(0, 5));
            due("3 in any hour", 255, () -> x.meeting(0, 6));
            due("3 never busy", 0, () -> x.person(0, 2));
            due("3 one room, one person", 11, () -> 10 * x.told(1) + x.told(2));
            due("3 free everywhere", 8, () -> x.free(0));
            Checks.house(x, i == 0 ? bare : rich);
            due("3 and back", i == 0 ? 0 : 7, () -> x.meeting(0, 4));
        }
    }

    private static void faulty(String text, int kind, int at) {
        YieldedHours y = new YieldedHours();
        due("3 house " + text, kind - 10, () -> Checks.house(y, text));
        due("6 fault of " + text, at, () -> y.fault());
    }

    private static void houseFaults() {
        faulty("hours 8", 1, 7);
        faulty("hours 8  ", 1, 9);
        faulty("hours", 1, 5);
        faulty("hours 8 8;", 1, 8);
        faulty("hours 8x;", 1, 7);
        faulty("hours x;", 1, 6);
        faulty("hours -1;", 1, 6);
        faulty("hour 8;", 1, 0);
        faulty("hours8hours", 1, 6);
        faulty(";", 1, 0);
        faulty("room 1;;", 1, 7);
        faulty("Room 1;", 1, 0);
        faulty("7;", 1, 0);
        faulty("room 1;\t", 1, 7);
        faulty("not 1;", 1, 0);
        faulty("hours 11;", 2, 6);
        faulty("hours 4294967298;", 2, 6);
        faulty("hours 18446744073709551618;", 2, 6);
        faulty("room 20;room 21;", 2, 13);
        faulty("person 9 9;person 9 10;", 2, 20);
        faulty("hours 3;person 0 0;busy 0 1 3;", 2, 28);
        faulty("hours 3;person 0 0;busy 0 3 3;", 2, 26);
        faulty("person 0 0;busy 1 0 0;", 2, 16);
        faulty("person 0 0;busy 0 3 2;", 2, 20);
        faulty("room 1;meet 0 1 0;", 2, 14);
        faulty("room 1;meet 0 0 0;who 0 0;", 2, 24);
        faulty("room 1;meet 0 0 0;who 1 0;", 2, 22);
        faulty("room 1;meet 0 0 0;may 0 2 1;", 2, 26);
        faulty("room 1;meet 0 0 0;may 0 8 8;", 2, 24);
        faulty("room 1;meet 0 0 0;fixed 1;", 2, 24);
        faulty("room 1;meet 0 0 0;moved 0 100;", 2, 26);
        faulty("room 1;hold 0 0 17 0;", 2, 16);
        faulty("room 1;hold 0 0 16 100;", 2, 19);
        faulty("room 1;hold 8 0 0 0;", 2, 12);
        faulty("room 1;hold 0 1 0 0;", 2, 14);
        faulty("room 1;hours x", 4, 7);
        faulty("hours 1; hours 1;", 4, 9);
        faulty("hours 12;hours 1;", 2, 6);
    }

    private static void houseLimits() {
        faulty("room 1;".repeat(3) + "room x", 3, 21);
        faulty("person 1 1;".repeat(8) + " person 1 1;", 3, 89);
        faulty("room 1;" + "meet 0 0 0;".repeat(10) + "meet 0 0 0;", 3, 117);
        faulty("room 1;" + "hold 0 0 0 0;".repeat(5), 3, 59);
        String sixty = "room 1;meet 0 0 0;" + "fixed 0;".repeat(58);
        due("3 sixty clauses", 1, () -> Checks.house(new YieldedHours(), sixty));
        faulty(sixty + "fixed 0;", 3, sixty.length());
        faulty(sixty + "room", 3, sixty.length());
        faulty(sixty + "hours 1;", 3, sixty.length());
        faulty(sixty + "nothing", 1, sixty.length());
        faulty(sixty + "  ;", 1, sixty.length() + 2);
        due("3 sixty and blanks", 1, () -> Checks.house(new YieldedHours(), sixty + "  "));
        String most = "hours 10;" + "room 20;".repeat(3) + "person 9 9;".repeat(8) + "meet 9 2 99;".repeat(10)
            + "hold 9 2 16 99;".repeat(4);
        tell(most);
        due("7 most hours", 10, () -> x.told(0));
        due("7 most rooms", 3, () -> x.told(1));
        due("7 most people", 8, () -> x.told(2));
        due("7 most meetings", 10, () -> x.told(3));
        due("7 most holds", 4, () -> x.told(4));
        due("13 all in one place", 1023, () -> x.clashing());
    }

    private static void target() {
        tell(HOUSE);
        due("4 two lines", 2, () -> Checks.target(x, "0 1 1; 3 4 2;"));
        due("4 blanks", 1, () -> Checks.target(x, " 0  1 1 ; "));
        due("4 none", 0, () -> Checks.target(x, ""));
        due("4 replaced", 0, () -> x.told(5));
        x.feed(0, 0, 0, 0, 0);
        wrongArgument("4 below 0", () -> x.target(-1));
        wrongArgument("4 more than the tape", () -> x.target(21));
        due("4 the tape stays", 20, () -> x.count(1));
        for (int i = 0; i < 6; i++) {
            x.feed(0x20202020, 0x20202020, 0x20202020, 0x20202020, 0x20202020);
        }
        wrongArgument("4 above 120", () -> x.target(121));
        due("4 the tape stays too", 140, () -> x.count(1));
        x.house(0);
        due("4 120 blanks", 0, () -> Checks.target(x, " ".repeat(120)));
        tell("room 1;" + "meet 0 0 0;".repeat(10));
        due("4 ten lines", 10, () -> Checks.target(x, "0 0 0;1 0 0;2 0 0;3 0 0;4 0 0;5 0 0;6 0 0;7 0 0;8 0 0;9 0 0;"));
        due("4 an eleventh is told twice", -8, () -> Checks.target(x,
            "0 0 0;1 0 0;2 0 0;3 0 0;4 0 0;5 0 0;6 0 0;7 0 0;8 0 0;9 0 0;0 0 0;"));
        due("6 at its M", 60, () -> x.fault());
    }

    private static void targetFault(String text, int kind, int at) {
        due("4 target " + text, kind - 10, () -> Checks.target(x, text));
        due("6 fault of " + text, at, () -> x.fault());
        due("4 stays behind " + text, 1, () -> x.told(5));
    }

    private static void targetFaults() {
        tell(HOUSE);
        Checks.target(x, "3 0 2;");
        targetFault("5 0 0;", 2, 0);
        targetFault("0 5 0;", 2, 2);
        targetFault("0 0 3;", 2, 4);
        targetFault("0 0 0;1 0 0;0 x", 2, 12);
        targetFault("0 0 0;1 0 0;0", 2, 12);
        targetFault("0 0 0", 1, 5);
        targetFault("0 0 0;1", 1, 7);
        targetFault("0 0 0;x", 1, 6);
        targetFault("0,0", 1, 1);
        targetFault("00 0 0;000 0 0;", 2, 7);
        due("26 the old line", 302, () -> x.line(0, 0) * 100 + x.line(0, 1) * 10 + x.line(0, 2));
    }

    private static void rule() {
        tell(HOUSE);
        due("5 rule", 1, () -> Checks.rule(x, "mycost > cost"));
        due("5 faulty", -9, () -> Checks.rule(x, "mycost < cost x"));
        due("5 the old one stays", 10, () -> bit(x.yields(0, 1)) * 10 + bit(x.yields(1, 0)));
        x.feed(0, 0, 0, 0, 0);
        wrongArgument("5 below 0", () -> x.rule(-1));
        wrongArgument("5 more than the tape", () -> x.rule(21));
        for (int i = 0; i < 7; i++) {
            x.feed(0, 0, 0, 0, 0);
        }
        wrongArgument("5 above 150", () -> x.rule(151));
        due("5 the tape stays", 160, () -> x.count(1));
        x.target(0);
        due("5 150 bytes", 1, () -> Checks.rule(x, "1=1" + " ".repeat(147)));
        due("5 tight", 1, () -> Checks.rule(x, "not[mycost*2+(1-step)<99or hour=room]and 1=1"));
        due("5 six open", 1, () -> Checks.rule(x, "not [not [not [1=1]]]"));
        due("5 six open, again and again", 1, () -> Checks.rule(x, "((((((1))))))=((((((1)))))) and not not not not not not 1=1"));
        due("5 not ends with its B", 1, () -> Checks.rule(x, "not not not not not not 1=1 and not not not not not not 1=1"));
    }

    private static void ruleFault(String text, int kind, int at) {
        YieldedHours y = new YieldedHours();
        due("5 rule " + text, kind - 10, () -> Checks.rule(y, text));
        due("6 fault of " + text, at, () -> y.fault());
    }

    private static void ruleFaults() {
        ruleFault("", 1, 0);
        ruleFault("   ", 1, 3);
        ruleFault("1", 1, 1);
        ruleFault("1 =", 1, 3);
        ruleFault("1 = 100", 2, 4);
        ruleFault("1 = 99999999999999999999", 2, 4);
        ruleFault("1 = 1 1", 1, 6);
        ruleFault("1 = 1 = 1", 1, 6);
        ruleFault("1 = 1 or", 1, 8);
        ruleFault("1 = 1 and or", 1, 10);
        ruleFault("1 = 1 xor 1 = 1", 1, 6);
        ruleFault("1 = 1 not 1 = 1", 1, 6);
        ruleFault("1 = not 1 = 1", 1, 4);
        ruleFault("or", 1, 0);
        ruleFault("hours = 1", 1, 0);
        ruleFault("person = 1", 1, 0);
        ruleFault("(1 = 1)", 1, 3);
        ruleFault("[1] = 1", 1, 2);
        ruleFault("[1 = 1", 1, 6);
        ruleFault("(1 + 2 = 3", 1, 7);
        ruleFault("1 = 1]", 1, 5);
        ruleFault("1 = (1))", 1, 7);
        ruleFault("1 + [1] = 1", 1, 4);
        ruleFault("1 / 1 = 1", 1, 2);
        ruleFault("-1 = 1", 1, 0);
        ruleFault("cost1 = 1 x", 1, 4);
        ruleFault("1 <= 1", 1, 3);
        ruleFault("[[[[[[[1=1]]]]]]]", 3, 6);
        ruleFault("not [not [not [not 1=1]]]", 3, 15);
        ruleFault("not [not [not [(1)=1]]]", 3, 15);
        ruleFault("1=((((((( ", 3, 8);
        ruleFault("not not not not not not 1=(1)", 3, 26);
        ruleFault("1=1 or not not not not not not [", 3, 31);
        ruleFault("Step = 1", 1, 0);
    }

    private static void told() {
        tell(HOUSE);
        int[] want = {5, 3, 4, 5, 3, 0, 0};
        for (int i = 0; i < want.length; i++) {
            int what = i;
            due("7 told " + i, want[i], () -> x.told(what));
        }
        x.drop(0);
        x.drop(3);
        due("7 out", 2, () -> x.told(6));
        wrongArgument("7 another", () -> x.told(7));
        wrongArgument("7 below 0", () -> x.told(-1));
    }

    private static void meetingAndPerson() {
        tell(HOUSE);
        long[][] meetings = {{0, 0, 10, 0, 0, 3, 31}, {0, 1, 20, 0, 0, 4, 11}, {1, 0, 30, 0, 3, 5, 31},
            {2, 2, 40, 0, 0, 0, 31}, {3, 0, 50, 1, 0, 11, 31}};
        for (int m = 0; m < 5; m++) {
            for (int i = 0; i < 7; i++) {
                int meeting = m;
                int what = i;
                due("8 meeting " + m + " " + i, meetings[m][i], () -> x.meeting(meeting, what));
            }
        }
        x.drop(2);
        due("8 out", -1, () -> x.meeting(2, 0));
        due("8 out too", -1, () -> x.meeting(2, 1));
        noSuch("8 no such", () -> x.meeting(5, 0));
        noSuch("8 below 0, ahead of others", () -> x.meeting(-1, 9));
        wrongArgument("8 another what", () -> x.meeting(0, 7));
        wrongArgument("8 a what below 0", () -> x.meeting(0, -1));
        x.undo();
        long[][] people = {{1, 0, 0, 3, 3}, {2, 1, 0, 2, 0}, {3, 2, 24, 2, 3}, {0, 9, 0, 1, 0}};
        for (int p = 0; p < 4; p++) {
            for (int i = 0; i < 5; i++) {
                int person = p;
                int what = i;
                due("9 person " + p + " " + i, people[p][i], () -> x.person(person, what));
            }
        }
        x.drop(2);
        due("9 in fewer", 2, () -> x.person(0, 3));
        due("9 bears yet", 3, () -> x.person(0, 4));
        noSuch("9 no such", () -> x.person(4, 0));
        noSuch("9 below 0", () -> x.person(-1, 5));
        wrongArgument("9 another what", () -> x.person(0, 5));
        wrongArgument("9 a what below 0", () -> x.person(0, -1));
    }

    private static void atAndWhere() {
        tell(HOUSE);
        due("10 at", 1, () -> x.at(0, 1));
        due("10 nobody", -1, () -> x.at(4, 2));
        noSuch("10 no room", () -> x.at(9, 3));
        noSuch("10 no room below", () -> x.at(0, -1));
        wrongArgument("10 no hour", () -> x.at(5, 0));
        wrongArgument("10 no hour below", () -> x.at(-1, 0));
        due("11 where", 2, () -> x.where(2, 1));
        due("11 nowhere", -1, () -> x.where(1, 1));
        noSuch("11 no person", () -> x.where(4, 7));
        wrongArgument("11 no hour", () -> x.where(0, 5));
        tell("room 9;room 9;person 0 0;meet 2 1 0;meet 2 0 0;meet 2 0 0;who 2 0;who 1 0;");
        due("10 the least", 1, () -> x.at(2, 0));
        due("11 the least", 1, () -> x.where(0, 2));
        due("13 who clashes", 6, () -> x.clashing());
        x.drop(1);
        due("10 not who is out", 2, () -> x.at(2, 0));
        due("11 not who is out", 2, () -> x.where(0, 2));
        due("13 not who is out", 0, () -> x.clashing());
    }

    private static void clash() {
        tell(HOUSE);
        due("12 own place", 0, () -> x.clash(0, 0, 0));
        due("12 own hour, other room", 8, () -> x.clash(0, 0, 1));
        due("12 may not", 1, () -> x.clash(1, 2, 0));
        due("12 busy, may not, held", 11, () -> x.clash(1, 4, 1));
        due("12 busy", 2, () -> x.clash(1, 3, 1));
        due("12 with people in the room", 12, () -> x.clash(2, 0, 0));
        due("12 people alone", 4, () -> x.clash(0, 1, 1));
        due("12 too small", 16, () -> x.clash(0, 4, 2));
        due("12 room alone", 8, () -> x.clash(3, 0, 0));
        due("12 held", 8, () -> x.clash(3, 2, 1));
        due("12 all", 31, () -> {
            tell("hours 2;room 1;person 0 0;person 0 0;meet 0 0 0;meet 1 0 0;who 0 0;who 0 1;who 1 1;may 0 0 0;busy 0 1 1;");
            return x.clash(0, 1, 0);
        });
        due("12 of one that is out", 31, () -> x.drop(0) * x.clash(0, 1, 0));
        due("13 too many people", 0, () -> x.clashing());
        x.undo();
        due("13 clashes where it is", 1, () -> x.clashing());
        tell(HOUSE);
        noSuch("12 no meeting", () -> x.clash(5, 0, 0));
        noSuch("12 no room", () -> x.clash(0, 5, 3));
        wrongArgument("12 no hour", () -> x.clash(0, 5, 0));
    }

    private static void free() {
        tell(HOUSE);
        // nobody in it: 15 places less four that others have, less three that are held
        due("14 free", 8, () -> x.free(3));
        // hour 0 in two rooms less one that is taken, hour 2 less a held one, hour 4 all held
        due("14 with people", 2, () -> x.free(0));
        due("14 where it may not", 1, () -> x.free(1));
        noSuch("14 no meeting", () -> x.free(5));
        x.drop(3);
        due("14 of one that is out", 8, () -> x.free(3));
        x.let(1);
        due("14 a hold less", 9, () -> x.free(3));
    }

    private static void move() {
        tell(HOUSE);
        due("15 is there", 0, () -> x.move(0, 0, 0));
        due("15 moved", 1, () -> x.move(0, 2, 0));
        due("15 once more", 1, () -> x.meeting(0, 4));
        due("15 fixed", -32, () -> x.move(4, 0, 0));
        due("15 fixed and there", 0, () -> x.move(4, 3, 0));
        due("15 clashes", -12, () -> x.move(2, 2, 0));
        due("15 stayed", 1, () -> x.meeting(2, 0));
        due("15 not counted", 3, () -> x.meeting(2, 4));
        due("15 one act", 1, () -> x.count(2));
        noSuch("15 no meeting", () -> x.move(-1, 0, 0));
        noSuch("15 no room", () -> x.move(0, -1, 9));
        wrongArgument("15 no hour", () -> x.move(0, -1, 0));
        for (int i = 1; i < 30; i++) {
            int room = i % 2;
            int hour = room == 0 ? 2 : 0;
            if (room == 1) {
                due("15 back " + i, 1, () -> x.move(3, 4, 2));
            } else {
                due("15 forth " + i, 1, () -> x.move(3, hour, 2));
            }
        }
        due("15 thirty acts", 30, () -> x.count(2));
        due("15 no more", -64, () -> x.move(0, 0, 0));
        due("15 ahead of fixed", -64, () -> x.move(4, 0, 0));
        due("15 ahead of clashes", -64, () -> x.move(2, 2, 0));
        due("15 is there all the same", 0, () -> x.move(0, 2, 0));
        due("16 no more", -64, () -> x.drop(0));
        due("16 ahead of fixed", -64, () -> x.drop(4));
        due("44 no more", -64, () -> x.push(0, 0, 0));
        due("44 ahead of fixed", -64, () -> x.push(4, 0, 0));
        due("46 no more", -64, () -> x.done(1, 1));
        due("35 nothing to do", 0, () -> x.follow());
        Checks.target(x, "0 0 0;");
        due("35 no more", -64, () -> x.follow());
        Checks.target(x, "4 0 0;");
        due("35 ahead of fixed", -64, () -> x.follow());
        due("17 undone", 29, () -> x.undo());
        due("15 again", 1, () -> x.move(0, 0, 0));
    }

    private static void drop() {
        tell(HOUSE);
        due("16 dropped", 1, () -> x.drop(2));
        due("16 is so", 0, () -> x.drop(2));
        due("16 fixed", -32, () -> x.drop(4));
        due("16 does not count as moved", 3, () -> x.meeting(2, 4));
        due("16 gone", -1, () -> x.at(1, 0));
        due("16 one act", 1, () -> x.count(2));
        noSuch("16 no meeting", () -> x.drop(5));
        due("15 out of nowhere", 1, () -> x.move(2, 1, 0));
        due("15 counts as moved", 4, () -> x.meeting(2, 4));
    }

    private static void undo() {
        tell(HOUSE);
        due("17 none", -1, () -> x.undo());
        x.move(0, 2, 0);
        x.drop(3);
        x.push(0, 1, 1);
        due("17 three", 3, () -> x.count(2));
        due("17 two", 2, () -> x.undo());
        due("17 place", 20, () -> x.meeting(0, 0) * 10 + x.meeting(0, 1));
        due("17 pushed one too", 10, () -> x.meeting(2, 0) * 10 + x.meeting(2, 1));
        due("17 times", 13, () -> x.meeting(0, 4) * 10 + x.meeting(2, 4));
        due("17 one", 1, () -> x.undo());
        due("17 is in again", 22, () -> x.meeting(3, 0) * 10 + x.meeting(3, 1));
        x.let(0);
        due("17 nothing left", 0, () -> x.undo());
        due("17 times as told", 0, () -> x.meeting(0, 4));
        due("18 for good", 0, () -> x.hold(0, 3));
        due("17 none again", -1, () -> x.undo());
    }

    private static void holds() {
        tell(HOUSE);
        due("19 hour", 4, () -> x.hold(0, 0));
        due("19 room", 1, () -> x.hold(0, 1));
        due("19 lost", 20, () -> x.hold(0, 2));
        due("19 lost alike", 20, () -> x.hold(1, 2));
        due("19 held", 1, () -> x.hold(0, 3));
        due("19 none is out", 0, () -> x.hold(0, 4));
        due("20 least", 2, () -> x.least());
        due("18 let go", 1, () -> x.let(2));
        due("18 is gone", 0, () -> x.let(2));
        due("20 of alike ones the first", 0, () -> x.least());
        due("12 the other one holds", 8, () -> x.clash(3, 4, 1));
        x.drop(0);
        x.drop(1);
        x.drop(3);
        // 1 may not be in hour 4, and its person is busy; 0 and 3 clash with the hold alone
        due("19 who would take it", 2, () -> x.hold(0, 4));
        x.let(0);
        due("12 is free now", 0, () -> x.clash(3, 4, 1));
        due("19 who would take it yet", 2, () -> x.hold(0, 4));
        due("20 the next", 1, () -> x.least());
        x.let(1);
        due("20 none", -1, () -> x.least());
        due("7 holds that were told", 3, () -> x.told(4));
        noSuch("18 no hold", () -> x.let(3));
        noSuch("18 below 0", () -> x.let(-1));
        noSuch("19 no hold", () -> x.hold(3, 9));
        wrongArgument("19 another what", () -> x.hold(0, 5));
        tell("room 1;hold 0 0 1 1;hold 0 0 1 1;meet 0 0 1;");
        due("13 held where it is", 1, () -> x.clashing());
        x.let(0);
        due("13 held twice", 1, () -> x.clashing());
        x.let(1);
        due("13 not held", 0, () -> x.clashing());
    }

    private static void fitsAll(String what, int meeting, int hour, int fewest, int which, int room, int cost) {
        due(what + ": fewest", fewest, () -> x.fits(meeting, hour, 0));
        due(what + ": which", which, () -> x.fits(meeting, hour, 1));
        due(what + ": room", room, () -> x.fits(meeting, hour, 2));
        due(what + ": cost", cost, () -> x.fits(meeting, hour, 3));
    }

    private static void fits() {
        tell(HOUSE);
        fitsAll("21 stays", 0, 0, 0, 0, 0, 0);
        fitsAll("21 goes alone", 0, 2, 0, 0, 0, 13);
        due("22 itself", 2, () -> x.goes(0, 2, 0));
        due("22 itself, staying", 0, () -> x.goes(0, 0, 0));
        due("22 another that stays", -1, () -> x.goes(0, 2, 1));
        // meeting 2 shares people with both in hour 0: 0 goes to hour 1, 1 to hour 1 in the other room
        fitsAll("21 two go", 2, 0, 2, 3, 0, 30 + 4 + 10 + 3 + 20 + 3);
        due("22 the first place", 1, () -> x.goes(2, 0, 0));
        due("22 the next", 11, () -> x.goes(2, 0, 1));
        due("22 it", 0, () -> x.goes(2, 0, 2));
        fitsAll("21 not with the fixed one", 0, 3, -1, -1, -1, -1);
        due("22 does not fit", -1, () -> x.goes(0, 3, 0));
        due("23 hours", 3, () -> x.hours(2));
        due("23 where nobody is", 5, () -> x.hours(3));
        x.drop(3);
        due("23 out, asked at once", 0, () -> x.hours(3));
        x.undo();
        due("22 back, asked at once: the least room", 2, () -> x.goes(3, 2, 3));
        x.drop(3);
        x.undo();
        due("23 back, asked at once", 5, () -> x.hours(3));
        x.drop(0);
        due("21 out", -1, () -> x.fits(0, 0, 0));
        due("22 out", -1, () -> x.goes(0, 0, 0));
        due("23 out", 0, () -> x.hours(0));
        noSuch("21 no meeting", () -> x.fits(5, 9, 9));
        wrongArgument("21 no hour", () -> x.fits(0, 5, 0));
        wrongArgument("21 another what", () -> x.fits(0, 0, 4));
        wrongArgument("21 a what below 0", () -> x.fits(0, 0, -1));
        noSuch("22 no meeting", () -> x.goes(5, 0, 0));
        noSuch("22 no other", () -> x.goes(0, 9, 5));
        wrongArgument("22 no hour", () -> x.goes(0, -1, 0));
        noSuch("23 no meeting", () -> x.hours(-1));
        // four in the way are one too many
        tell("hours 2;room 5;room 5;room 5;person 0 0;person 0 0;person 0 0;meet 0 0 0;meet 1 0 1;meet 1 1 1;meet 1 2 1;"
            + "who 0 0;who 0 1;who 0 2;who 1 0;who 2 1;who 3 2;");
        fitsAll("21 three go", 0, 1, 3, 14, 0, 3);
        due("22 three places", 0, () -> x.goes(0, 1, 1));
        due("22 three places", 10, () -> x.goes(0, 1, 2));
        due("22 three places", 20, () -> x.goes(0, 1, 3));
        Checks.house(x, "hours 2;room 9;room 9;room 9;person 0 0;meet 0 0 0;meet 1 0 1;meet 1 0 1;meet 1 1 1;meet 1 2 1;"
            + "who 0 0;who 1 0;who 2 0;who 3 0;who 4 0;");
        due("21 four are too many", -1, () -> x.fits(0, 1, 0));
    }

    private static void fitsOfFixed() {
        tell("hours 2;room 5;room 5;meet 0 0 7;meet 0 0 5;fixed 0;");
        fitsAll("21 fixed, in its hour", 0, 0, 1, 2, 0, 5);
        due("22 fixed stays", 0, () -> x.goes(0, 0, 0));
        due("22 the other goes", 10, () -> x.goes(0, 0, 1));
        due("21 fixed, elsewhere", -1, () -> x.fits(0, 1, 0));
        due("23 fixed", 1, () -> x.hours(0));
        fitsAll("21 the one that is not", 1, 0, 0, 0, 1, 5);
        tell("hours 1;room 5;room 5;meet 0 0 7;meet 0 0 5;hold 0 1 1 1;fixed 0;");
        due("21 none, with a fixed one", -1, () -> x.fits(1, 0, 0));
        due("23 nowhere", 0, () -> x.hours(0));
        tell("hours 2;room 5;meet 0 0 1;meet 1 0 1;hold 0 0 1 1;");
        due("21 another is on a held place", -1, () -> x.fits(1, 1, 0));
        x.drop(0);
        fitsAll("21 not when that one is out", 1, 1, 0, 0, 0, 0);
    }

    private static void fitsTies() {
        // hour 1 is full of two; each alone could go, and 2 costs less than 1
        tell("hours 2;room 1;room 1;meet 0 0 1;meet 1 0 50;meet 1 1 3;");
        fitsAll("21 the least bits, then the cheapest", 0, 1, 1, 2, 0, 4);
        due("22 the first place of the other", 0, () -> x.goes(0, 1, 1));
        // fewest moves one dear meeting, cheapest two cheap ones
        tell("hours 3;room 1;room 1;meet 0 0 0;meet 1 0 40;meet 1 1 1;meet 0 1 1;may 2 0 1;hold 0 0 1 1;");
        fitsAll("21 one dear, or two cheap", 0, 1, 1, 2, 0, 2);
        due("22 by fewest", 2, () -> x.goes(0, 1, 1));
        due("22 not by cheapest", -1, () -> x.goes(0, 1, 2));
        // of each the places by number: the first one's first, though the second one could have it too
        tell("hours 3;room 1;room 1;meet 0 0 0;meet 0 0 0;meet 0 1 0;");
        fitsAll("21 who is in the same place goes", 0, 0, 1, 2, 0, 0);
        due("22 hour by hour", 1, () -> x.goes(0, 0, 1));
    }

    private static void swapAndRings() {
        tell(HOUSE);
        due("24 could", 1, () -> bit(x.swap(0, 1)));
        due("24 could not: 1 and 2 would share a person", 0, () -> bit(x.swap(0, 2)));
        due("24 fixed", 0, () -> bit(x.swap(3, 4)));
        noSuch("24 no meeting", () -> bit(x.swap(5, 5)));
        noSuch("24 no first", () -> bit(x.swap(5, 0)));
        noSuch("24 no other", () -> bit(x.swap(0, -1)));
        wrongArgument("24 one meeting", () -> bit(x.swap(1, 1)));
        tell("hours 4;room 1;meet 0 0 0;meet 1 0 0;meet 2 0 0;meet 3 0 0;may 2 2 3;may 3 0 2;may 3 3 3;");
        due("24 two change", 1, () -> bit(x.swap(2, 3)));
        due("24 the other way round", 1, () -> bit(x.swap(3, 2)));
        due("24 one may not be there", 0, () -> bit(x.swap(1, 2)));
        tell("hours 4;room 1;meet 0 0 0;meet 1 0 0;meet 2 0 0;meet 3 0 0;may 1 0 0;may 1 2 3;");
        due("24 not lawful while 1 stays where it may not be", 0, () -> bit(x.swap(2, 3)));
        due("24 lawful when 1 leaves", 1, () -> bit(x.swap(0, 1)));
        due("25 with 1 alone", 3, () -> x.rings(2, 0));
        tell("hours 4;room 1;meet 0 0 0;meet 1 0 0;meet 2 0 0;meet 3 0 0;");
        due("25 of two", 6, () -> x.rings(2, 0));
        due("25 of three", 8, () -> x.rings(3, 0));
        due("25 of four", 6, () -> x.rings(4, 0));
        due("25 the first of two", 1, () -> x.rings(2, 1));
        due("25 the first of three", 12, () -> x.rings(3, 1));
        due("25 the first of four", 123, () -> x.rings(4, 1));
        tell("hours 4;room 1;meet 0 0 0;meet 1 0 0;meet 2 0 0;meet 3 0 0;may 0 0 0;may 1 3 3;may 1 1 1;may 3 2 3;may 2 1 2;");
        due("25 one goes to the next one's place", 132, () -> x.rings(3, 1));
        due("25 it alone", 1, () -> x.rings(3, 0));
        due("25 of two none", 0, () -> x.rings(2, 0));
        due("25 no first", -1, () -> x.rings(2, 1));
        x.drop(2);
        due("25 not with one that is out", 0, () -> x.rings(3, 0));
        due("24 nor so", 0, () -> bit(x.swap(1, 2)));
        wrongArgument("25 one", () -> x.rings(1, 0));
        wrongArgument("25 five", () -> x.rings(5, 0));
        wrongArgument("25 another what", () -> x.rings(2, 2));
        wrongArgument("25 a what below 0", () -> x.rings(2, -1));
    }

    private static void linesAndApart() {
        tell(HOUSE);
        Checks.target(x, "3 4 2;0 0 0;1 1 1;");
        due("26 M", 3, () -> x.line(0, 0));
        due("26 H", 4, () -> x.line(0, 1));
        due("26 R", 2, () -> x.line(0, 2));
        due("26 another line", 1, () -> x.line(2, 1));
        due("26 none such", -1, () -> x.line(3, 0));
        due("26 below 0", -1, () -> x.line(-1, 2));
        wrongArgument("26 another what", () -> x.line(0, 3));
        wrongArgument("26 a what below 0", () -> x.line(9, -1));
        due("27 apart", 10, () -> x.apart());
        due("28 not lawful: 1 and 2 share a person", 0, () -> bit(x.once()));
        x.drop(0);
        due("27 out is apart", 11, () -> x.apart());
        x.drop(2);
        due("28 lawful without 2", 1, () -> bit(x.once()));
    }

    private static void order() {
        // 0 waits for 1, 1 for 2
        tell("hours 4;room 1;meet 0 0 0;meet 1 0 0;meet 2 0 0;");
        due("29 nothing to do", 0, () -> x.order(0));
        due("29 no digits", 0, () -> x.order(1));
        Checks.target(x, "0 1 0;1 2 0;2 3 0;");
        due("29 how many", 3, () -> x.order(0));
        due("29 in what order", 210, () -> x.order(1));
        due("29 nothing was done", 7, () -> x.apart());
        Checks.target(x, "0 1 0;1 0 0;");
        due("29 a knot", -1, () -> x.order(0));
        due("29 a knot", -1, () -> x.order(1));
        due("28 at once it is lawful", 1, () -> bit(x.once()));
        wrongArgument("29 another what", () -> x.order(2));
        wrongArgument("29 below 0", () -> x.order(-1));
        tell("hours 4;room 1;room 1;meet 0 0 0;meet 1 0 0;fixed 1;");
        Checks.target(x, "0 3 0;1 3 1;");
        due("29 a fixed one", -1, () -> x.order(0));
        tell("hours 10;room 1;room 1;meet 0 0 0;meet 1 0 0;meet 2 0 0;meet 3 0 0;meet 4 0 0;meet 5 0 0;meet 6 0 0;meet 7 0 0;"
            + "meet 8 0 0;meet 9 0 0;");
        Checks.target(x, "0 1 0;1 2 0;2 3 0;3 4 0;4 5 0;5 6 0;6 7 0;7 8 0;8 9 0;9 0 1;");
        due("29 ten", 10, () -> x.order(0));
        due("29 more than an int", 9876543210L, () -> x.order(1));
        x.drop(5);
        due("29 the least first", 4321098765L, () -> x.order(1));
        // not lawful as it is: the plan is to be so behind each
        tell("hours 4;room 1;meet 0 0 0;meet 0 0 0;meet 1 0 0;");
        Checks.target(x, "2 3 0;1 2 0;");
        due("29 who mends it first", 12, () -> x.order(1));
        Checks.target(x, "2 3 0;");
        due("29 never lawful", -1, () -> x.order(0));
        Checks.target(x, "");
        due("29 nothing goes, lawful or not", 0, () -> x.order(0));
    }

    private static void begin() {
        tell("hours 4;room 1;meet 0 0 0;meet 1 0 0;meet 2 0 0;meet 2 0 0;fixed 2;");
        Checks.target(x, "0 3 0;1 0 0;3 1 0;");
        due("30 none: 2 and 3 clash till 3 goes", 0, () -> x.begin());
        x.drop(3);
        due("30 who is out may come where none is", 1, () -> x.begin());
        Checks.target(x, "0 3 0;2 3 0;1 1 0;");
        due("30 not a fixed one, nor who is there", 1, () -> x.begin());
    }

    private static void waits() {
        tell("hours 4;room 9;room 9;person 0 0;meet 0 0 0;meet 1 0 0;meet 1 1 0;meet 2 0 0;meet 3 0 0;"
            + "who 0 0;who 2 0;who 4 0;");
        Checks.target(x, "0 1 0;1 2 0;2 3 1;");
        due("31 for the room and for a person", 6, () -> x.waits(0));
        due("31 3 is not in the target", 0, () -> x.waits(1));
        due("31 4 neither", 0, () -> x.waits(2));
        due("31 is not in the target itself", 0, () -> x.waits(3));
        Checks.target(x, "0 1 0;1 1 0;2 3 1;4 1 1;");
        due("31 not for one that is there", 4, () -> x.waits(0));
        due("31 is there", 0, () -> x.waits(1));
        due("31 for one that goes", 16, () -> x.waits(2));
        due("31 a room and a person", 4, () -> x.waits(4));
        Checks.target(x, "0 0 1;1 3 0;");
        due("31 not for itself", 0, () -> x.waits(0));
        noSuch("31 no meeting", () -> x.waits(5));
    }

    private static void knot() {
        tell("hours 4;room 1;meet 0 0 0;meet 1 0 0;meet 2 0 0;");
        due("32 nobody", 0, () -> x.knot());
        Checks.target(x, "0 1 0;1 2 0;2 3 0;");
        due("32 again and again", 0, () -> x.knot());
        Checks.target(x, "0 1 0;1 0 0;2 3 0;");
        due("32 two are left", 3, () -> x.knot());
        due("32 nothing was done", 7, () -> x.apart());
        tell("hours 4;room 1;meet 0 0 0;meet 1 0 0;meet 2 0 0;fixed 2;");
        Checks.target(x, "1 2 0;0 1 0;2 3 0;");
        due("32 a fixed one and who waits for it", 7, () -> x.knot());
        // by number, not from the start again: 2 takes the place ahead of 0
        tell("hours 5;room 1;room 1;person 0 0;meet 0 0 0;meet 1 0 0;meet 2 0 0;who 0 0;who 2 0;");
        Checks.target(x, "0 1 0;1 3 0;2 1 1;");
        due("32 in one sweep", 1, () -> x.knot());
    }

    private static void news() {
        // person 0 hears at once, 1 an hour late, 2 nine hours late
        tell("hours 5;room 9;room 9;person 0 0;person 0 1;person 0 9;meet 0 0 0;meet 3 0 0;meet 4 0 0;"
            + "who 0 0;who 0 1;who 1 1;who 2 2;");
        Checks.target(x, "0 2 0;1 3 1;");
        due("33 nobody yet", 0, () -> x.news(1, 1));
        due("33 who hears late", 2, () -> x.news(2, 1));
        due("33 all of them", 3, () -> x.news(3, 1));
        due("33 how many", 2, () -> x.news(4, 0));
        due("34 the last hour", 1, () -> x.latest());
        Checks.target(x, "0 0 1;1 3 1;2 4 1;");
        due("33 the same hour, another room", 0, () -> x.news(4, 1));
        due("34 any hour", 4, () -> x.latest());
        Checks.target(x, "2 3 0;");
        due("33 heard too late", 4, () -> x.news(0, 1));
        due("34 no hour", -1, () -> x.latest());
        Checks.target(x, "2 4 0;");
        x.drop(2);
        due("33 who was out", 4, () -> x.news(0, 1));
        Checks.target(x, "");
        due("33 out, and not in the target", 0, () -> x.news(4, 1));
        wrongArgument("33 no hour", () -> x.news(5, 0));
        wrongArgument("33 no hour below", () -> x.news(-1, 0));
        wrongArgument("33 another what", () -> x.news(0, 2));
    }

    private static void follow() {
        tell("hours 4;room 1;meet 0 0 0;meet 1 0 0;meet 2 0 0;");
        due("35 nothing", 0, () -> x.follow());
        due("35 no act", 0, () -> x.count(2));
        Checks.target(x, "0 1 0;1 0 0;2 2 0;");
        due("35 two", 2, () -> x.follow());
        due("35 one act", 1, () -> x.count(2));
        due("35 counted", 110, () -> x.meeting(0, 4) * 100 + x.meeting(1, 4) * 10 + x.meeting(2, 4));
        due("35 there", 0, () -> x.apart());
        due("35 again", 0, () -> x.follow());
        due("35 undone", 0, () -> x.undo());
        due("35 apart again", 3, () -> x.apart());
        Checks.target(x, "0 1 0;");
        due("35 not lawful", -1, () -> x.follow());
        due("35 stayed", 0, () -> x.meeting(0, 0));
        x.drop(0);
        Checks.target(x, "0 3 0;");
        due("35 out of nowhere", 1, () -> x.follow());
        due("35 counts", 1, () -> x.meeting(0, 4));
        tell("hours 4;room 1;meet 0 0 0;fixed 0;");
        Checks.target(x, "0 1 0;");
        due("35 fixed", -1, () -> x.follow());
        Checks.target(x, "0 0 0;");
        due("35 fixed, but there", 0, () -> x.follow());
    }

    private static void pair() {
        tell(HOUSE);
        due("36 pair", 2, () -> x.pair(0, 1));
        due("36 the other way round", 2, () -> x.pair(1, 0));
        due("36 never", 0, () -> x.pair(2, 3));
        x.drop(0);
        due("36 not where they are out", 1, () -> x.pair(0, 1));
        noSuch("36 no person", () -> x.pair(4, 4));
        noSuch("36 no first", () -> x.pair(4, 0));
        noSuch("36 no other", () -> x.pair(0, -1));
        wrongArgument("36 one person", () -> x.pair(0, 0));
    }

    private static void drops() {
        tell(HOUSE);
        // 0 and 1 meet in the fixed one; person 2 is alone in 1; nobody is in 3; 0 and 2 meet in 2 alone
        due("37 drops", 11, () -> x.drops());
        x.drop(1);
        due("37 not who is out", 9, () -> x.drops());
        tell("room 9;room 9;person 0 0;person 0 0;meet 0 0 0;meet 1 0 0;meet 2 0 0;"
            + "who 0 0;who 0 1;who 1 0;who 1 1;who 2 0;who 2 1;");
        due("37 the least bits", 3, () -> x.drops());
        x.drop(0);
        due("37 of two", 2, () -> x.drops());
        x.drop(1);
        due("37 the last one stays", 0, () -> x.drops());
    }

    private static void gap() {
        tell(HOUSE);
        due("38 of nobody", 31, () -> x.gap(0));
        due("38 of one", 20, () -> x.gap(1));
        due("38 of one that is busy", 4, () -> x.gap(4));
        due("38 of two", 22, () -> x.gap(2));
        due("38 of all", 4, () -> x.gap(15));
        x.drop(2);
        due("38 without what is out", 6, () -> x.gap(4));
        wrongArgument("38 no such people", () -> x.gap(16));
        wrongArgument("38 below 0", () -> x.gap(-1));
        wrongArgument("38 one too high", () -> x.gap(Integer.MIN_VALUE));
        due("39 together", 1, () -> x.together(4, 2));
        due("39 the first", 1, () -> x.together(2, 1));
        due("39 too many", -1, () -> x.together(4, 3));
        due("39 more than there are", -1, () -> x.together(0, 6));
        due("39 as many as there are", 0, () -> x.together(0, 5));
        wrongArgument("39 none", () -> x.together(0, 0));
        wrongArgument("39 eleven", () -> x.together(0, 11));
        wrongArgument("39 no such people", () -> x.together(16, 1));
        due("39 ten", -1, () -> x.together(0, 10));
        tell("hours 10;");
        due("39 ten of ten", 0, () -> x.together(0, 10));
        due("38 ten hours", 1023, () -> x.gap(0));
    }

    private static void fair() {
        tell(HOUSE);
        due("40 most less least", 3, () -> x.fair(0));
        due("40 the first who bears most", 0, () -> x.fair(1));
        x.move(1, 1, 1);
        x.move(1, 0, 1);
        due("40 nothing of it: 1 could not", 0, () -> x.count(2));
        x.move(0, 2, 0);
        x.move(0, 0, 0);
        due("40 more", 5, () -> x.fair(0));
        x.drop(2);
        due("40 what is out was moved too", 5, () -> x.fair(0));
        wrongArgument("40 another what", () -> x.fair(2));
        wrongArgument("40 below 0", () -> x.fair(-1));
        tell("room 1;person 1 1;person 1 1;");
        due("40 all alike", 0, () -> x.fair(0));
        due("40 the first", 0, () -> x.fair(1));
        tell("room 1;");
        due("40 nobody", -1, () -> x.fair(1));
    }

    private static boolean so(String rule, int other, int meeting) {
        if (Checks.rule(x, rule) != 1) {
            throw new AssertionError("a test's rule has a fault at " + x.fault() + ": " + rule);
        }
        return x.yields(other, meeting);
    }

    private static void yields() {
        tell(HOUSE);
        due("41 no rule", 0, () -> bit(x.yields(0, 1)));
        due("41 of both", 1, () -> bit(so("cost=10 and times=0 and size=2 and number=0 and mycost=30 and mytimes=3 and mysize=2"
            + " and mynumber=2", 0, 2)));
        due("41 the other way round", 0, () -> bit(x.yields(2, 0)));
        due("41 the place that is wanted", 1, () -> bit(so("hour=2 and room=2 and step=0", 3, 0)));
        due("41 a fixed one is asked too", 1, () -> bit(so("hour=3 and room=0", 4, 0)));
        noSuch("41 no other", () -> bit(x.yields(5, 5)));
        noSuch("41 no other, of a meeting", () -> bit(x.yields(5, 0)));
        noSuch("41 no meeting", () -> bit(x.yields(0, -1)));
        wrongArgument("41 one meeting", () -> bit(x.yields(0, 0)));
        x.drop(0);
        wrongArgument("41 that one is out", () -> bit(x.yields(0, 1)));
        due("41 who wants may be out", 1, () -> bit(so("mynumber=0", 1, 0)));
        x.house(0);
        noSuch("41 nobody", () -> bit(x.yields(0, 1)));
    }

    private static void yieldsReckons() {
        tell(HOUSE);
        String[] right = {"2+3*4=14", "(2+3)*4=20", "9-3-2=4", "9-(3-2)=8", "1<2", "2>1", "not 1>1", "not 1<1", "1=2 or 1=1",
            "1=1 or 1=1 and 1=2", "not [[1=1 or 1=1] and 1=2]", "not 1=2 and 1=1", "not [1=1 and 1=2]", "not not 1=1",
            "0-1<0", "99*99*99*99*40<0", "99*99*99*99*99+99*99*99*99*99=2*99*99*99*99*99", "01=1",
            "not 1=2 or 1=2", "not[1=2 or 1=2]", "3-5+2=0", "2*3-4*5=0-14"};
        for (String rule : right) {
            due("41 " + rule, 1, () -> bit(so(rule, 0, 1)));
        }
        String[] not = {"1=2", "2<1", "1<1", "1>2", "1=1 and 1=2", "not 1=1", "1=2 or 1=3", "not 1=1 or 1=2",
            "[1=1 or 1=1] and 1=2", "not not 1=2"};
        for (String rule : not) {
            due("41 " + rule, 0, () -> bit(so(rule, 0, 1)));
        }
        // 99^5 = 9509900499, which leaves 919965907 when it wraps
        due("41 it wraps", 1, () -> bit(so("99*99*99*99*99=(((9*99+57)*99+12)*99+48)*99+91", 0, 1)));
    }

    private static void pushed(String what, int m, int hour, int room, long... want) {
        due("42 " + what + ": steps", want[0], () -> x.pushes(m, hour, room, 0));
        due("42 " + what + ": how many", want[1], () -> x.pushes(m, hour, room, 1));
        due("42 " + what + ": out", want[2], () -> x.pushes(m, hour, room, 2));
        for (int i = 3; i < want.length; i++) {
            int other = i - 3;
            due("43 " + what + ": where " + other + " is", want[i], () -> x.pushed(m, hour, room, other));
        }
    }

    private static void pushes() {
        tell("hours 3;room 9;meet 0 0 5;meet 1 0 3;");
        pushed("where nobody is", 0, 2, 0, 0, 1, 0, 2, 1);
        pushed("one is pushed on", 0, 1, 0, 1, 2, 0, 1, 0);
        pushed("where it is", 0, 0, 0, 0, 0, 0, 0, 1);
        // three hours for three: who is pushed has the place that was left
        tell("hours 2;room 9;meet 0 0 5;meet 1 0 3;may 1 1 1;");
        pushed("none is left for it", 0, 1, 0, 1, 2, 2, 1, -1);
        Checks.rule(x, "cost > mycost");
        // 1 wants hour 1 back from 0, which is dearer; 0 goes to hour 0 then
        pushed("pushed back", 0, 1, 0, 2, 0, 0, 0, 1);
        Checks.rule(x, "cost > mycost and step > 0");
        pushed("not in step 0", 0, 1, 0, 1, 2, 2, 1, -1);
        tell("hours 3;room 9;room 1;person 0 0;person 0 0;meet 0 0 5;meet 1 0 3;meet 1 1 2;meet 2 0 9;"
            + "who 0 0;who 0 1;who 2 1;who 3 0;fixed 3;hold 0 1 1 1;busy 0 0 0;");
        // 0 has busy people in hour 0, but who pushes it into hour 1 finds 1 in the room and 2 with person 1
        pushed("two leave, by number", 0, 1, 0, 2, 3, 0, 1, 0, 12, 2);
        due("42 a fixed one in the way", -1, () -> x.pushes(0, 2, 0, 0));
        due("43 a fixed one in the way", -1, () -> x.pushed(0, 2, 0, 0));
        due("42 a fixed one whose person it has", -1, () -> x.pushes(0, 2, 1, 0));
        due("42 held", -1, () -> x.pushes(1, 0, 1, 0));
        due("42 busy", -1, () -> x.pushes(0, 0, 0, 1));
        due("42 too small", -1, () -> x.pushes(0, 1, 1, 2));
        due("42 fixed itself", -1, () -> x.pushes(3, 0, 0, 0));
        noSuch("42 no meeting", () -> x.pushes(4, 0, 0, 0));
        noSuch("42 no room", () -> x.pushes(0, 9, 2, 0));
        wrongArgument("42 no hour", () -> x.pushes(0, 3, 0, 0));
        wrongArgument("42 another what", () -> x.pushes(0, 1, 0, 3));
        noSuch("43 no other", () -> x.pushed(0, 9, 0, 4));
        noSuch("43 no room", () -> x.pushed(0, 0, 2, 0));
        wrongArgument("43 no hour", () -> x.pushed(0, -1, 0, 0));
        x.drop(0);
        pushed("one that is out", 0, 1, 0, 2, 3, 0, 1, 0, 12, 2);
    }

    private static void pushEnds() {
        // two that may be in one place alone push each other out again and again
        tell("hours 2;room 9;meet 0 0 1;meet 1 0 1;meet 1 0 1;may 0 1 1;may 1 1 1;may 2 1 1;");
        Checks.rule(x, "1=1");
        x.drop(2);
        due("42 a hundred steps", 100, () -> x.pushes(0, 1, 0, 0));
        due("42 who waits then is out", 2, () -> x.pushes(0, 1, 0, 2));
        due("43 the other has it", 1, () -> x.pushed(0, 1, 0, 0));
        Checks.rule(x, "step < 98");
        due("42 it ends by the rule", 99, () -> x.pushes(0, 1, 0, 0));
        due("42 who waited is out", 2, () -> x.pushes(0, 1, 0, 2));
        Checks.rule(x, "step < 97");
        due("42 a step earlier", 98, () -> x.pushes(0, 1, 0, 0));
        due("42 the other is out", 1, () -> x.pushes(0, 1, 0, 2));
        Checks.rule(x, "times > mytimes or number < mynumber");
        due("42 one turn", 2, () -> x.pushes(0, 1, 0, 0));
        due("42 the first is out", 1, () -> x.pushes(0, 1, 0, 2));
        due("42 it did not count in between", 0, () -> x.meeting(0, 4) + x.meeting(1, 4));
    }

    private static void push() {
        tell("hours 2;room 9;meet 0 0 5;meet 1 0 3;may 1 1 1;");
        due("44 steps", 1, () -> x.push(0, 1, 0));
        due("44 who is out counts as moved", 11, () -> x.meeting(0, 4) * 10 + x.meeting(1, 4));
        due("44 out", -1, () -> x.meeting(1, 0));
        due("44 one act", 1, () -> x.count(2));
        due("44 where it is", 0, () -> x.push(0, 1, 0));
        due("44 an act too", 2, () -> x.count(2));
        due("44 not counted as moved", 1, () -> x.meeting(0, 4));
        x.undo();
        due("44 undone", 0, () -> x.undo());
        due("44 as it was", 10, () -> x.meeting(1, 0) * 10 + x.meeting(0, 0) + x.meeting(1, 4));
        due("44 can't", -1, () -> x.push(1, 0, 0));
        due("44 no act", 0, () -> x.count(2));
        Checks.rule(x, "cost > mycost");
        due("44 pushed back", 2, () -> x.push(0, 1, 0));
        due("44 where they were: not moved", 0, () -> x.meeting(0, 4) + x.meeting(1, 4));
        noSuch("44 no meeting", () -> x.push(2, 0, 0));
        noSuch("44 no room", () -> x.push(0, 2, 1));
        wrongArgument("44 no hour", () -> x.push(0, 2, 0));
        tell("room 1;meet 0 0 0;fixed 0;");
        due("44 fixed", -1, () -> x.push(0, 0, 0));
    }

    private static void week() {
        tell("hours 10;room 9;room 9;person 0 0;meet 0 0 0;who 0 0;moved 0 50;");
        // seed 1 draws 16838, 5758, 10113, 17515, 31051, 5627, 23010, 7419, ..: hours 8, 5, 7, 9
        due("45 four moves", 4, () -> x.week(1, 4, 0));
        due("45 no row of refused ones", 0, () -> x.week(1, 4, 1));
        due("45 borne", 54, () -> x.week(1, 4, 2));
        due("45 nothing was done", 50, () -> x.meeting(0, 4));
        due("46 done", 1, () -> x.done(1, 1));
        due("46 the hour", 8, () -> x.meeting(0, 0));
        due("46 the least room", 0, () -> x.meeting(0, 1));
        due("46 counted", 51, () -> x.meeting(0, 4));
        due("45 refused where it is", 1, () -> x.week(1, 1, 1));
        due("45 a row that ends", 3, () -> x.week(1, 4, 0));
        due("45 the row", 1, () -> x.week(1, 4, 1));
        wrongArgument("45 none", () -> x.week(1, 0, 0));
        wrongArgument("45 61", () -> x.week(1, 61, 0));
        wrongArgument("45 another what", () -> x.week(1, 1, 3));
        wrongArgument("45 below 0", () -> x.week(1, 1, -1));
        tell("hours 10;room 9;meet 0 0 0;fixed 0;");
        due("45 fixed", 0, () -> x.week(1, 60, 0));
        due("45 all refused", 60, () -> x.week(1, 60, 1));
        due("45 nobody bears", 0, () -> x.week(1, 60, 2));
        tell("hours 10;room 9;room 9;person 0 0;person 0 0;meet 0 0 0;meet 8 0 0;fixed 1;");
        // 16838 is even: 0 is drawn, 5758 is hour 8 where the room is taken; 10113 is 1, which is fixed
        due("46 into the next room", 1, () -> x.done(1, 2));
        due("46 hour 8, room 1", 81, () -> x.meeting(0, 0) * 10 + x.meeting(0, 1));
        x.drop(0);
        due("45 out", 0, () -> x.week(1, 60, 0));
        tell("hours 3;");
        due("45 without meetings", 7, () -> x.week(-5, 7, 1));
    }

    private static void done() {
        tell("hours 10;room 9;meet 0 0 0;");
        due("46 four", 4, () -> x.done(1, 4));
        due("46 one act", 1, () -> x.count(2));
        due("46 the last hour", 9, () -> x.meeting(0, 0));
        due("46 moved four times", 4, () -> x.meeting(0, 4));
        due("46 undone", 0, () -> x.undo());
        due("46 as it was", 0, () -> x.meeting(0, 0) + x.meeting(0, 4));
        x.drop(0);
        due("46 none moved", 0, () -> x.done(1, 60));
        due("46 an act all the same", 2, () -> x.count(2));
        wrongArgument("46 none", () -> x.done(1, 0));
        wrongArgument("46 61", () -> x.done(1, 61));
    }

    private static void span() {
        tell("hours 10;room 9;meet 8 0 0;");
        // seed 1 draws hour 8 first (refused), seed 2 another one
        due("47 fewest", 0, () -> x.span(1, 2, 1, 0));
        due("47 most", 1, () -> x.span(1, 2, 1, 1));
        due("47 all", 1, () -> x.span(1, 2, 1, 2));
        due("47 one week", 3, () -> x.span(1, 1, 4, 2));
        due("47 the seeds wrap", x.week(Integer.MAX_VALUE, 9, 0) + x.week(Integer.MIN_VALUE, 9, 0),
            () -> x.span(Integer.MAX_VALUE, 2, 9, 2));
        due("47 nothing was done", 8, () -> x.meeting(0, 0));
        due("47 most weeks and draws", 0, () -> x.span(1, 20, 60, 0) > x.span(1, 20, 60, 1) ? 1 : 0);
        wrongArgument("47 no week", () -> x.span(1, 0, 1, 0));
        wrongArgument("47 21 weeks", () -> x.span(1, 21, 1, 0));
        wrongArgument("47 no draw", () -> x.span(1, 1, 0, 0));
        wrongArgument("47 61 draws", () -> x.span(1, 1, 61, 0));
        wrongArgument("47 another what", () -> x.span(1, 1, 1, 3));
        wrongArgument("47 a what below 0", () -> x.span(1, 1, 1, -1));
    }

    private static void image() {
        tell(HOUSE);
        due("49 none", -1, () -> x.restore());
        Checks.target(x, "0 2 0;");
        x.move(0, 2, 0);
        due("48 one", 1, () -> x.image());
        x.let(0);
        x.undo();
        Checks.target(x, "1 1 1;3 4 2;");
        Checks.rule(x, "1=1");
        x.drop(3);
        x.drop(2);
        due("48 two", 2, () -> x.image());
        due("48 three", 3, () -> x.image());
        due("48 no more", -1, () -> x.image());
        due("49 the third", 2, () -> x.restore());
        x.undo();
        due("49 the second", 1, () -> x.restore());
        due("49 its places", 2, () -> x.told(6));
        due("49 its acts", 2, () -> x.count(2));
        due("49 its target", 2, () -> x.told(5));
        due("49 the first", 0, () -> x.restore());
        due("49 place", 20, () -> x.meeting(0, 0) * 10 + x.meeting(0, 1));
        due("49 times", 1, () -> x.meeting(0, 4));
        due("49 holds", 1, () -> x.hold(0, 3));
        due("49 target", 0, () -> x.line(0, 0));
        due("49 lines", 1, () -> x.told(5));
        due("49 acts", 1, () -> x.count(2));
        due("49 not the rule", 1, () -> bit(x.yields(0, 1)));
        due("49 what can be undone", 0, () -> x.undo());
        due("49 undone", 0, () -> x.meeting(0, 0) + x.meeting(0, 4));
        due("49 none left", -1, () -> x.restore());
    }

    private static void status() {
        tell(HOUSE);
        due("50 none", 0, () -> x.status(0) + x.status(1));
        x.image();
        noSuch("50 one", () -> x.meeting(9, 9));
        noSuch("50 two", () -> x.let(9));
        wrongArgument("50 another", () -> x.told(9));
        due("50 no such", 2, () -> x.status(0));
        due("50 wrong", 1, () -> x.status(1));
        x.restore();
        due("50 no image keeps it", 2, () -> x.status(0));
        Checks.house(x, "nonsense");
        Checks.house(x, HOUSE);
        due("50 no house changes it", 1, () -> x.status(1));
        due("50 others", -1, () -> x.status(2));
        due("50 below 0", -1, () -> x.status(-1));
    }

    private static void count() {
        tell(HOUSE);
        due("51 images", 0, () -> x.count(0));
        x.image();
        due("51 an image", 1, () -> x.count(0));
        x.feed(0, 0, 0, 0, 0);
        due("51 bytes", 20, () -> x.count(1));
        x.drop(0);
        due("51 acts", 1, () -> x.count(2));
        due("51 others", -1, () -> x.count(3));
        due("51 below 0", -1, () -> x.count(-1));
    }
}

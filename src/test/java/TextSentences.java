/** The first part of the terms (the three texts), and promises 1 to 7. */
final class TextSentences extends SentencePart {
    private static final String SIXTY = "room 1;meet 0 0 0;" + "fixed 0;".repeat(58);
    private static final String TEN_LINES = "0 0 0;1 0 0;2 0 0;3 0 0;4 0 0;5 0 0;6 0 0;7 0 0;8 0 0;9 0 0;";

    TextSentences(Sentences sentences) {
        super(sentences);
    }

    @Override
    void run() {
        houseAsText();
        clausesOfPlaces();
        clausesOfMeetings();
        numbersOfClauses();
        targetAsText();
        ruleAsText();
        units();
        signs();
        faults();
        faultsOfTooMany();
        newObjectAndFeed();
        readHouse();
        readTargetAndRule();
        faultAndTold();
    }

    private void houseAsText() {
        terms(1, "A HOUSE is a text of up to 600 bytes", () -> {
            String text = "room 1;" + " ".repeat(582) + "meet 0 0 7;";
            x = new YieldedHours();
            due("house(600)", 1, () -> Checks.house(x, text));
            due("meeting(0, 2): its last bytes were read", 7, () -> x.meeting(0, 2));
            Checks.feed(x, text);
            due("house(599)", -9, () -> x.house(599));
            due("fault()", 599, () -> x.fault());
        });
        terms(1, "{ CLAUSE \";\" }, at most 60.", () -> {
            fine("");
            fine("   ");
            fine("room 1;");
            fault(1, "|;");
            fault(1, "room 1;|;");
            fault(1, "room 1|");
            fault(1, "room 1 |room 1;");
            fine(SIXTY);
            fine(SIXTY + "  ");
            fault(3, SIXTY + "|fixed 0;");
            fine("hours 3;room 1;meet 0 0 0;" + "fixed 0;".repeat(57));
            fault(3, "hours 3;room 1;meet 0 0 0;" + "fixed 0;".repeat(57) + "|fixed 0;");
        });
    }

    private void clausesOfPlaces() {
        terms(1, "CLAUSE: \"hours\" N (1 to 10; 8 without; ahead of all others, once)", () -> {
            fault(2, "hours |0;");
            house("hours 1;");
            due("told(0) of 1", 1, () -> x.told(0));
            house("hours 10;");
            due("told(0) of 10", 10, () -> x.told(0));
            fault(2, "hours |11;");
            house("room 1;");
            due("told(0) without", 8, () -> x.told(0));
            due("house() of nothing", 0, () -> Checks.house(x, ""));
            due("told(0) of nothing", 8, () -> x.told(0));
            fault(4, "room 1;|hours 3;");
            fault(4, "hours 3;|hours 3;");
        });
        terms(1, "\"room\" N (ROOMS, numbered from 0 on, 3 at most: holds N PEOPLE, 0 to 20)", () -> {
            fault(2, "room |21;");
            fine("room 20;");
            fault(3, "room 1;room 1;room 1;|room 1;");
            house("room 0;room 1;room 2;person 0 0;person 0 0;meet 0 0 0;meet 0 0 0;meet 0 0 0;"
                + "who 1 0;who 2 0;who 2 1;");
            due("told(1)", 3, () -> x.told(1));
            int[][] due = {{0, 0, 0}, {16, 0, 0}, {16, 16, 0}};
            for (int m = 0; m < 3; m++) {
                for (int r = 0; r < 3; r++) {
                    int meeting = m;
                    int room = r;
                    due("clash of " + m + " people in room " + r, due[m][r], () -> x.clash(meeting, 5, room) & 16);
                }
            }
            noSuch("at(0, 3)", () -> x.at(0, 3));
        });
        terms(1, "\"person\" A D (PEOPLE likewise, 8: to ask costs A, 0 to 9; hears D HOURS late, 0 to 9)", () -> {
            fault(2, "person |10 0;");
            fault(2, "person 0 |10;");
            house("person 0 9;person 9 0;" + "person 1 2;".repeat(6));
            due("told(2)", 8, () -> x.told(2));
            due("person(0, 0)", 0, () -> x.person(0, 0));
            due("person(0, 1)", 9, () -> x.person(0, 1));
            due("person(1, 0)", 9, () -> x.person(1, 0));
            due("person(1, 1)", 0, () -> x.person(1, 1));
            due("person(7, 1)", 2, () -> x.person(7, 1));
            fault(3, "person 1 2;".repeat(8) + "|person 1 2;");
        });
        terms(1, "\"busy\" P F T (P is busy from HOUR F to T, T no less than F)", () -> {
            house("hours 5;person 0 0;person 0 0;person 0 0;person 0 0;busy 0 2 2;busy 1 0 4;busy 2 4 4;busy 2 0 0;"
                + "busy 2 0 1;");
            due("from 2 to 2", 4, () -> x.person(0, 2));
            due("from 0 to 4", 31, () -> x.person(1, 2));
            due("told three times", 19, () -> x.person(2, 2));
            due("never", 0, () -> x.person(3, 2));
            fault(2, "hours 5;person 0 0;busy 0 3 |2;");
            fault(2, "hours 5;person 0 0;busy 0 4 |0;");
        });
        terms(1, "\"hold\" H R P C (HOLDS likewise, 4: ROOM R is held in HOUR H; needed by odds P, 0 to 16 of 16; C, 0 to 99, "
            + "is lost then, if it was let go)", () -> {
                house("hours 2;room 1;room 1;hold 0 0 16 99;hold 0 1 0 99;hold 1 1 16 0;hold 1 1 1 1;meet 1 0 0;");
                due("told(4)", 4, () -> x.told(4));
                due("hold(0, 2)", 1584, () -> x.hold(0, 2));
                due("hold(1, 2)", 0, () -> x.hold(1, 2));
                due("hold(2, 2)", 0, () -> x.hold(2, 2));
                due("hold(3, 2)", 1, () -> x.hold(3, 2));
                due("clash where it is held", 8, () -> x.clash(0, 0, 1));
                due("clash where it is not", 0, () -> x.clash(0, 1, 0));
                fault(2, "room 1;hold 0 0 |17 0;");
                fault(2, "room 1;hold 0 0 0 |100;");
                fault(3, "room 1;" + "hold 0 0 1 1;".repeat(4) + "|hold 0 0 1 1;");
            });
    }

    private void clausesOfMeetings() {
        terms(1, "\"meet\" H R W (MEETINGS likewise, 10: in HOUR H, ROOM R; to move costs W, 0 to 99)", () -> {
            house("room 1;room 1;meet 7 1 99;meet 0 0 0;" + "meet 1 0 5;".repeat(8));
            due("told(3)", 10, () -> x.told(3));
            due("meeting(0, 0)", 7, () -> x.meeting(0, 0));
            due("meeting(0, 1)", 1, () -> x.meeting(0, 1));
            due("meeting(0, 2)", 99, () -> x.meeting(0, 2));
            due("meeting(1, 2)", 0, () -> x.meeting(1, 2));
            due("meeting(9, 2)", 5, () -> x.meeting(9, 2));
            fault(2, "room 1;meet 0 0 |100;");
            fault(3, "room 1;" + "meet 0 0 0;".repeat(10) + "|meet 0 0 0;");
        });
        terms(1, "\"who\" M P (P is in M; twice as once)", () -> {
            house("room 1;person 3 0;meet 0 0 5;who 0 0;who 0 0;");
            due("meeting(0, 5)", 1, () -> x.meeting(0, 5));
            due("clash: one person in a room of 1", 0, () -> x.clash(0, 0, 0));
            due("fits: asked once", 8, () -> x.fits(0, 1, 3));
            due("person(0, 3): in one", 1, () -> x.person(0, 3));
        });
        terms(1, "\"may\" M F T (M may be in HOURS F to T; told of none it may be in any; all told ones count)", () -> {
            house("hours 4;room 1;meet 0 0 0;meet 1 0 0;meet 2 0 0;meet 3 0 0;may 1 1 1;may 2 0 0;may 2 2 3;may 3 0 3;");
            due("told of none", 15, () -> x.meeting(0, 6));
            due("from 1 to 1", 2, () -> x.meeting(1, 6));
            due("told twice", 13, () -> x.meeting(2, 6));
            due("from 0 to 3", 15, () -> x.meeting(3, 6));
            due("clash in the hour ahead", 1, () -> x.clash(1, 0, 0) & 1);
            due("clash in the hour", 0, () -> x.clash(1, 1, 0) & 1);
            due("clash in the hour behind", 1, () -> x.clash(1, 2, 0) & 1);
            fault(2, "hours 4;room 1;meet 0 0 0;may 0 3 |2;");
        });
        terms(1, "\"fixed\" M (it is not moved, nor dropped)", () -> {
            house("hours 3;room 1;meet 0 0 0;fixed 0;fixed 0;");
            due("meeting(0, 3)", 1, () -> x.meeting(0, 3));
            due("move", -32, () -> x.move(0, 1, 0));
            due("drop", -32, () -> x.drop(0));
            due("push", -1, () -> x.push(0, 1, 0));
            due("done", 0, () -> x.done(1, 60));
            target("0 1 0;");
            due("follow", -1, () -> x.follow());
            due("meeting(0, 0)", 0, () -> x.meeting(0, 0));
        });
        terms(1, "\"moved\" M N (it was so often already, 0 to 99; the last counts)", () -> {
            house("room 1;meet 0 0 0;meet 1 0 0;meet 2 0 0;meet 3 0 0;moved 1 99;moved 2 9;moved 2 3;moved 3 9;moved 3 0;");
            due("told of none", 0, () -> x.meeting(0, 4));
            due("99", 99, () -> x.meeting(1, 4));
            due("the last", 3, () -> x.meeting(2, 4));
            due("the last, 0", 0, () -> x.meeting(3, 4));
            x.move(1, 5, 0);
            due("99 and one", 100, () -> x.meeting(1, 4));
            fault(2, "room 1;meet 0 0 0;moved 0 |100;");
        });
    }

    private void numbersOfClauses() {
        terms(1, "H, F, T are HOURS there are (from 0 on)", () -> {
            String three = "hours 3;room 1;person 0 0;meet 0 0 0;";
            fine(three + "meet 2 0 0;hold 2 0 1 1;busy 0 0 2;busy 0 2 2;may 0 0 2;may 0 2 2;");
            fault(2, three + "meet |3 0 0;");
            fault(2, three + "hold |3 0 1 1;");
            fault(2, three + "busy 0 |3 3;");
            fault(2, three + "busy 0 0 |3;");
            fault(2, three + "may 0 |3 3;");
            fault(2, three + "may 0 0 |3;");
            fine("room 1;meet 7 0 0;");
            fault(2, "room 1;meet |8 0 0;");
            fine("hours 1;room 1;meet 0 0 0;");
            fault(2, "hours 1;room 1;meet |1 0 0;");
            fine("hours 10;room 1;meet 9 0 0;");
            fault(2, "hours 10;room 1;meet |10 0 0;");
        });
        terms(1, "R, P, M: told ahead.", () -> {
            fault(2, "meet 0 |0 0;room 1;");
            fault(2, "room 1;meet 0 |1 0;room 1;");
            fine("room 1;room 1;meet 0 1 0;");
            fault(2, "hold 0 |0 1 1;");
            fault(2, "room 1;hold 0 |1 1 1;room 1;");
            fault(2, "busy |0 0 0;person 0 0;");
            fault(2, "person 0 0;busy |1 0 0;person 0 0;");
            fault(2, "person 0 0;who |0 0;room 1;meet 0 0 0;");
            fault(2, "room 1;meet 0 0 0;who 0 |0;person 0 0;");
            fault(2, "room 1;meet 0 0 0;person 0 0;who 0 |1;person 0 0;");
            fault(2, "room 1;meet 0 0 0;person 0 0;who |1 0;meet 0 0 0;");
            fault(2, "may |0 0 0;");
            fault(2, "room 1;meet 0 0 0;may |1 0 0;meet 0 0 0;");
            fault(2, "fixed |0;");
            fault(2, "room 1;meet 0 0 0;fixed |1;meet 0 0 0;");
            fault(2, "moved |0 1;");
            fault(2, "room 1;meet 0 0 0;moved |1 1;meet 0 0 0;");
            fine("room 1;meet 0 0 0;meet 0 0 0;person 0 0;person 0 0;who 1 1;may 1 0 0;fixed 1;moved 1 1;busy 1 0 0;");
        });
    }

    private void targetAsText() {
        terms(1, "A TARGET is a text of up to 120 bytes", () -> {
            house("room 1;meet 0 0 0;meet 1 0 0;");
            due("target(120)", 2, () -> Checks.target(x, "0 0 0;" + " ".repeat(108) + "1 2 0;"));
            due("line(1, 1): its last bytes were read", 2, () -> x.line(1, 1));
            feedTimes(7);
            wrong("target(121)", () -> x.target(121));
        });
        terms(1, "{ M H R \";\" }, 10 lines at most, no M twice: where MEETINGS are to be (others as they are).", () -> {
            house("hours 3;room 1;room 1;" + "meet 0 0 0;".repeat(10));
            due("none", 0, () -> Checks.target(x, ""));
            due("ten", 10, () -> Checks.target(x, TEN_LINES));
            targetFault(2, TEN_LINES + "|0 1 0;");
            targetFault(2, TEN_LINES + "|10 1 0;");
            targetFault(2, "|10 0 0;");
            targetFault(2, "0 |3 0;");
            targetFault(2, "0 0 |2;");
            targetFault(2, "0 0 0;|0 0 0;");
            targetFault(2, "0 0 0;1 0 0;|0 1 0;");
            due("the last ones", 2, () -> Checks.target(x, "9 2 1;0 0 1;"));
            due("others as they are", 513, () -> x.apart());
            house("");
            targetFault(2, "|0 0 0;");
        });
    }

    private void ruleAsText() {
        terms(1, "A RULE is one of up to 150 bytes: C, at the end nothing more.", () -> {
            x = Checks.told("room 1;meet 0 0 0;meet 0 0 0;");
            so(true, "1=" + " ".repeat(147) + "1");
            so(false, "1=" + " ".repeat(147) + "0");
            feedTimes(8);
            wrong("rule(151)", () -> x.rule(151));
            ruleFault(1, "|");
            ruleFault(1, "1=1 |1");
            ruleFault(1, "1=1|;");
            ruleFault(1, "1=1|)");
            ruleFault(1, "1=1|]");
            ruleFault(1, "1=1 |not 1=1");
        });
        terms(1, "C: D { \"or\" D }. D: B { \"and\" B }.", () -> {
            x = Checks.told("room 1;meet 0 0 0;meet 0 0 0;");
            so(true, "1=1");
            so(true, "0=1 or 1=1");
            so(true, "1=1 or 0=1");
            so(true, "1=1 or 1=1");
            so(false, "0=1 or 0=1");
            so(true, "0=1 or 0=1 or 1=1");
            so(true, "1=1 and 1=1");
            so(false, "1=1 and 0=1");
            so(false, "0=1 and 1=1");
            so(false, "1=1 and 1=1 and 0=1");
            so(true, "1=1 or 0=1 and 0=1");
            so(true, "0=1 and 0=1 or 1=1");
            ruleFault(1, "1=1 or|");
            ruleFault(1, "1=1 and|");
            ruleFault(1, "1=1 or |or 1=1");
            ruleFault(1, "1=1 and |or 1=1");
            ruleFault(1, "|or 1=1");
            ruleFault(1, "|and 1=1");
        });
        terms(1, "B: \"not\" B, \"[\" C \"]\", or E S E; S: <, > or =.", () -> {
            x = Checks.told("room 1;meet 0 0 0;meet 0 0 0;");
            so(true, "not 0=1");
            so(false, "not 1=1");
            so(true, "not not 1=1");
            so(false, "not 0=1 and 0=1");
            so(true, "not 1=1 or 1=1");
            so(true, "not [1=1 and 0=1]");
            so(false, "[1=1 or 0=1] and 0=1");
            so(true, "1<2");
            so(false, "2<2");
            so(false, "3<2");
            so(true, "3>2");
            so(false, "2>2");
            so(false, "1>2");
            so(true, "2=2");
            so(false, "1=2");
            so(false, "3=2");
            so(false, "not 3>2");
            so(false, "not 2<3");
            so(false, "not 2=2");
            so(true, "3>2 and 2<3 and 2=2");
            ruleFault(1, "1<|=1");
            ruleFault(1, "1=1|=1");
            ruleFault(1, "1|");
            ruleFault(1, "1=|");
            ruleFault(1, "[1=1|");
            ruleFault(1, "[|]");
            ruleFault(1, "[1|]");
            ruleFault(1, "[1=1|)");
            ruleFault(1, "not|");
            ruleFault(1, "1=|not 1=1");
            ruleFault(1, "1 |not = 1");
        });
        terms(1, "E: T { + or - T }. T: U { * U }.", () -> {
            x = Checks.told("room 1;meet 0 0 0;meet 0 0 0;");
            so(true, "1+2*3=7");
            so(true, "2*3+1=7");
            so(true, "10-3-2=5");
            so(true, "10-3+2=9");
            so(true, "2*2*2=8");
            so(true, "1-2<0");
            so(true, "0*99=0");
            ruleFault(1, "1+|=1");
            ruleFault(1, "1*|*1=1");
            ruleFault(1, "1|/1=1");
            ruleFault(1, "|-1=1");
            ruleFault(1, "1=|-1");
            ruleFault(1, "1+|");
        });
    }

    private void units() {
        terms(1, "U: N (0 to 99)", () -> {
            x = Checks.told("room 1;meet 0 0 0;meet 0 0 0;");
            so(true, "0=1-1");
            so(true, "99=98+1");
            ruleFault(2, "|100=1");
            ruleFault(2, "1=|100");
        });
        terms(1, "\"cost\", \"times\", \"size\", \"number\" (of the MEETING that has the place: W, how often it was moved, how many "
            + "PEOPLE, its number), \"mycost\", \"mytimes\", \"mysize\", \"mynumber\" (of the one that wants it)", () -> {
                house("room 9;person 0 0;person 0 0;" + "person 0 0;".repeat(6) + "meet 0 0 99;meet 1 0 0;"
                    + "who 0 0;who 0 1;who 0 2;who 0 3;who 0 4;who 0 5;who 0 6;who 0 7;moved 0 99;moved 1 4;");
                so(true, "cost=99 and mycost=0");
                so(true, "times=99 and mytimes=4");
                so(true, "size=8 and mysize=0");
                so(true, "number=0 and mynumber=1");
                x.move(0, 2, 0);
                so(true, "times=99+1");
                rule("cost=0 and mycost=99 and times=4 and mytimes=99+1 and size=0 and mysize=8 and number=1 and mynumber=0");
                due("yields(1, 0)", 1, () -> bit(x.yields(1, 0)));
            });
        terms(1, "\"hour\", \"room\", \"step\", or \"(\" E \")\".", () -> {
            house("room 1;room 1;room 1;meet 0 0 0;meet 1 0 0;");
            so(true, "hour=0 and room=0 and step=0");
            x.move(0, 7, 2);
            so(true, "hour=7 and room=2 and step=0");
            so(true, "(1+2)*3=9");
            so(true, "10-(3-2)=9");
            so(true, "(1)=((1))");
            ruleFault(1, "(1|=1)");
            ruleFault(1, "(1+1|");
            ruleFault(1, "(|)=1");
            ruleFault(1, "(1|]=1");
            ruleFault(1, "1=(1)|)");
        });
    }

    private void signs() {
        terms(1, "Values are whole numbers of 32 bits that wrap.", () -> {
            x = Checks.told("room 1;meet 0 0 0;meet 0 0 0;");
            String highest = "64*64*64*64*64";
            so(true, highest + "*4=0");
            so(true, highest + "*2<0");
            so(true, highest + "+" + highest + "<0");
            so(true, "0-" + highest + "*2<0");
            so(true, "0-" + highest + "*2-1>0");
            so(true, highest + "*2-1+1<0");
            so(true, highest + "*2<99");
            so(true, highest + "*2-1>0-1");
            so(true, highest + "*2-1>0-2");
            so(true, "0-2<" + highest + "*2-1");
            so(false, highest + "*2>0");
            so(true, "99*99*99*99*99=92*99*99*99*99+7*99*99*99*99");
        });
        terms(1, "Numbers: digits, as many as stand there", () -> {
            house("room 0000000000000000000001;meet 00 000 0099;");
            due("told(1)", 1, () -> x.told(1));
            due("meeting(0, 2)", 99, () -> x.meeting(0, 2));
            due("target", 1, () -> Checks.target(x, "000 007 0000;"));
            due("line(0, 1)", 7, () -> x.line(0, 1));
            fault(2, "hours |4294967297;");
            fault(2, "hours |18446744073709551617;");
            fault(2, "hours |2147483648;");
            fault(2, "hours |12345678901234567890");
            fault(1, "hours 1 |0;");
            targetFault(2, "|4294967296 0 0;");
            ruleFault(2, "1=|4294967297");
            ruleFault(2, "1=|0100");
        });
        terms(1, "WORDS: small letters, as many as stand there", () -> {
            fault(1, "|rooms 1;");
            fault(1, "|roo 1;");
            fault(1, "|xoom 1;");
            fault(1, "|oom 1;");
            fault(1, "|rxom 1;");
            fault(1, "|Room 1;");
            fault(1, "|roOm 1;");
            fault(1, "room|R 1;");
            fault(1, "|r oom 1;");
            fault(1, "|roomroom 1;");
            fine("room1;person1 2;meet0 0 0;who0 0;may0 1 2;");
            x = Checks.told("room 1;meet 0 0 0;meet 0 0 0;");
            so(true, "1=1and1=1");
            so(true, "not0=1");
            so(true, "cost=mycost");
            ruleFault(1, "1=1 |andcost=1");
            ruleFault(1, "1=1 |AND 1=1");
            ruleFault(1, "1=1 or|A=1");
            ruleFault(1, "|costs=1");
            ruleFault(1, "|mycos=1");
            ruleFault(1, "cost|1=1");
        });
        terms(1, "blanks (32) may stand ahead of all these, and at the end.", () -> {
            house("  hours   3  ;  room  1  ;meet   0   0   0   ;   ");
            due("told(0)", 3, () -> x.told(0));
            due("target", 1, () -> Checks.target(x, "  0   2  0  ;  "));
            due("rule", 1, () -> Checks.rule(x, "  not  [  (  1  +  1  )  <  2  ]  "));
            fault(1, "room|\t1;");
            fault(1, "room 1;|\n");
            fault(1, "room 1;|\0");
            fault(1, "|\u00a0room 1;");
            fault(1, "room 1;  |\r");
            targetFault(1, "0|\t0 0;");
            ruleFault(1, "1=1|\t");
        });
    }

    private void faults() {
        terms(1, "FAULTS, the first from the left, at its first byte", () -> {
            fault(2, "room |21;bogus");
            fault(1, "|bogus 21;room 21;");
            fault(2, "room     |21;");
            fault(1, "     |bogus;");
            fault(2, "person |10 10;");
            fault(4, "room 1;   |hours 11;");
            house("room 1;meet 0 0 0;");
            targetFault(2, "   |1 9 9;");
            targetFault(2, "0    |8 9;");
            ruleFault(2, "|100=x");
            ruleFault(1, "  |x=100");
        });
        terms(1, "1 what can't stand there (at the length, if the text ends too early)", () -> {
            String[] short1 = {"room|", "room  |", "room 1|", "room 1  |", "hours 3; room 1; meet 0 0|", "meet|",
                "person 1|", "hours|"};
            for (String each : short1) {
                fault(1, each);
            }
            fault(1, "room |x;");
            fault(1, "room |;");
            fault(1, "|5;");
            fault(1, "room 1|,");
            fault(1, "room |-1;");
            fault(1, "room 1;|not 1;");
            fault(1, "person 1 |;");
            house("room 1;meet 0 0 0;");
            targetFault(1, "0|");
            targetFault(1, "0 0 0|");
            targetFault(1, "0 0  |");
            targetFault(1, "0 0 0;|x");
            targetFault(1, "|;");
            targetFault(1, "0 0 0;|;");
            targetFault(1, "0 0|;");
            targetFault(1, "0 0 0 |0;");
            ruleFault(1, "1=1 and  |");
            ruleFault(1, "1|");
            ruleFault(1, "  |");
            ruleFault(1, "|hours=1");
            ruleFault(1, "|person=1");
        });
        terms(1, "2 a number that is none such (also an M told twice)", () -> {
            fault(2, "hours |0;");
            fault(2, "room |21;");
            house("room 1;meet 0 0 0;meet 0 0 0;");
            targetFault(2, "0 0 0;|00 0 0;");
            targetFault(2, "0 0 0;1 0 0;|1");
            targetFault(2, "|2 0 0;");
            ruleFault(2, "1=|100");
        });
        terms(1, "4 hours too late, or again (at the word)", () -> {
            fault(4, "room 1;|hours 3;");
            fault(4, "hours 3;|hours 3;");
            fault(4, "hours 3;room 1;|hours 3;");
            fault(4, "hours 3;  |hours");
            fault(4, "person 0 0;|hours 99;");
            fault(2, "hours |99;hours 3;");
        });
        terms(1, "of one the least.", () -> {
            fault(3, SIXTY + "|hours 3;");
            fault(1, SIXTY + "|hour 3;");
            fault(1, SIXTY + "|7;");
            fault(1, SIXTY + "|not 3;");
            fault(3, SIXTY.replace("room 1;", "room 1;room 1;room 1;").replaceFirst("fixed 0;fixed 0;", "") + "|room 1;");
            ruleFault(1, "((((((|not 1=1");
            ruleFault(1, "((((((|[1=1]");
            ruleFault(1, "((((((1|(1");
            house("room 1;" + "meet 0 0 0;".repeat(10));
            targetFault(2, TEN_LINES + "|9 0 0;");
            targetFault(1, TEN_LINES + "|x");
        });
    }

    private void faultsOfTooMany() {
        terms(1, "3 a CLAUSE, ROOM, PERSON, MEETING, HOLD or line too many (at its word, its M)", () -> {
            fault(3, SIXTY + " |fixed x");
            fault(3, "room 1;room 1;room 1; |room x");
            fault(3, "person 1 2;".repeat(8) + " |person 99 99;");
            fault(3, "room 1;" + "meet 0 0 0;".repeat(10) + " |meet");
            fault(3, "room 1;" + "hold 0 0 1 1;".repeat(4) + " |hold 9 9 99 99;");
            // M is told twice, or is none such, when a line is too many: the least fault of that byte is 2
            house("room 1;" + "meet 0 0 0;".repeat(10));
            targetFault(2, TEN_LINES + "|5");
        });
        terms(1, "or a 7th of ( [ and not that is open at one time (a not till its B ends)", () -> {
            x = Checks.told("room 1;meet 0 0 0;meet 0 0 0;");
            so(true, "((((((1))))))=1");
            ruleFault(3, "((((((|(1)))))))=1");
            so(true, "[[[[[[1=1]]]]]]");
            ruleFault(3, "[[[[[[|[1=1]]]]]]]");
            so(true, "not not not not not not 1=1");
            ruleFault(3, "not not not not not not |not 1=1");
            so(false, "[not[not[(1)=0]]]and 1=0");
            so(true, "[not [not [(1)=1]]]");
            ruleFault(3, "[not [not [(|((1)))=1]]]");
            ruleFault(3, "not not not not not not |[1=1]");
            ruleFault(3, "not not not not not not 1=|(1)");
            ruleFault(3, "not not not not not [ |[1=1]]");
            so(true, "(1)+(1)+(1)+(1)+(1)+(1)+(1)=7");
            so(true, "[1=1] and [1=1] and [1=1] and [1=1] and [1=1] and [1=1] and [1=1]");
            so(true, "not 0=1 and not 0=1 and not 0=1 and not 0=1 and not 0=1 and not 0=1 and not 0=1");
            so(true, "not not not not not not 1=1 or not not not not not not 1=1");
            so(true, "((((((1))))))=((((((1))))))");
            ruleFault(3, "((((((|(");
        });
    }

    private void newObjectAndFeed() {
        promise(1, "A HOUSE without CLAUSES.", () -> {
            x = new YieldedHours();
            due("told(0)", 8, () -> x.told(0));
            for (int i = 1; i <= 6; i++) {
                int what = i;
                due("told(" + i + ")", 0, () -> x.told(what));
            }
            due("count(0)", 0, () -> x.count(0));
            due("count(1)", 0, () -> x.count(1));
            due("count(2)", 0, () -> x.count(2));
            due("status(0)", 0, () -> x.status(0));
            due("status(1)", 0, () -> x.status(1));
            due("fault()", -1, () -> x.fault());
            due("NONE", -1, () -> YieldedHours.NONE);
            due("undo()", -1, () -> x.undo());
            due("restore()", -1, () -> x.restore());
            noSuch("meeting(0, 0)", () -> x.meeting(0, 0));
            noSuch("person(0, 0)", () -> x.person(0, 0));
            noSuch("at(0, 0)", () -> x.at(0, 0));
            noSuch("hold(0, 0)", () -> x.hold(0, 0));
        });
        promise(2, "Twenty bytes come on the TAPE, of each number the highest first: how many there are", () -> {
            x = new YieldedHours();
            // "hours 4;room 3;room " and "2;" behind it: the bytes of all five numbers, in their order
            due("feed 1", 20, () -> x.feed(0x686f7572, 0x7320343b, 0x726f6f6d, 0x20333b72, 0x6f6f6d20));
            due("feed 2", 40, () -> x.feed(0x323b0000, -1, Integer.MIN_VALUE, 0, 0));
            due("house(22)", 0, () -> x.house(22));
            due("told(0)", 4, () -> x.told(0));
            due("told(1)", 2, () -> x.told(1));
            x.feed(0xff20207f, 0, 0, 0, 0);
            due("house(1) of byte 255", -9, () -> x.house(1));
        });
        promise(2, "NONE, doing nothing, if there would be more than 600.", () -> {
            x = new YieldedHours();
            feedTimes(29);
            due("the 30th", 600, () -> x.feed(0x20202020, 0x20202020, 0x20202020, 0x20202020, 0x20202020));
            due("the 31st", -1, () -> x.feed(0x21212121, 0x21212121, 0x21212121, 0x21212121, 0x21212121));
            due("count(1)", 600, () -> x.count(1));
            due("house(600): blanks alone", 0, () -> x.house(600));
            due("then", 20, () -> x.feed(0, 0, 0, 0, 0));
        });
    }

    private void readHouse() {
        promise(3, "The first n bytes of the TAPE (empty then) are the HOUSE (no TARGET, RULE, IMAGES, nothing to undo)", () -> {
            house("room 1;meet 0 0 0;meet 1 0 0;");
            target("0 5 0;");
            rule("1=1");
            x.image();
            x.move(0, 2, 0);
            Checks.feed(x, "room 1;meet 3 0 0;meet 4 0 0;moved 0 1;");
            due("house(29), the rest not read", 2, () -> x.house(29));
            due("count(1): empty", 0, () -> x.count(1));
            due("meeting(0, 0)", 3, () -> x.meeting(0, 0));
            due("meeting(0, 4)", 0, () -> x.meeting(0, 4));
            due("told(5)", 0, () -> x.told(5));
            due("yields(0, 1)", 0, () -> bit(x.yields(0, 1)));
            due("count(0)", 0, () -> x.count(0));
            due("restore()", -1, () -> x.restore());
            due("undo()", -1, () -> x.undo());
            x.feed(0, 0, 0, 0, 0);
            due("house(0)", 0, () -> x.house(0));
            due("count(1): empty too", 0, () -> x.count(1));
            due("told(3)", 0, () -> x.told(3));
            String rich = "hours 3;room 9;person 1 1;meet 0 0 5;who 0 0;busy 0 1 1;may 0 0 1;fixed 0;moved 0 7;hold 1 0 9 9;";
            for (int i = 0; i < 4; i++) {
                due("a rich house", 1, () -> Checks.house(x, rich));
                due("once more", 1, () -> Checks.house(x, rich));
                due("hold(0, 3): held again", 1, () -> x.hold(0, 3));
                x.let(0);
                due("a bare one behind it", 1, () -> Checks.house(x, "room 9;person 0 0;meet 0 0 0;"));
                due("told(0)", 8, () -> x.told(0));
                due("told(4)", 0, () -> x.told(4));
                due("told(1), told(2), told(3)", 111, () -> 100 * x.told(1) + 10 * x.told(2) + x.told(3));
                due("meeting(0, 3)", 0, () -> x.meeting(0, 3));
                due("meeting(0, 4)", 0, () -> x.meeting(0, 4));
                due("meeting(0, 5)", 0, () -> x.meeting(0, 5));
                due("meeting(0, 6)", 255, () -> x.meeting(0, 6));
                due("person(0, 2)", 0, () -> x.person(0, 2));
                due("free(0)", 8, () -> x.free(0));
                due("a faulty one behind that", -9, () -> Checks.house(x, rich + "?"));
                due("meeting(0, 6) again", 255, () -> x.meeting(0, 6));
            }
        });
        promise(3, "how many MEETINGS; or the FAULT less 10 (all but the TAPE stays).", () -> {
            x = new YieldedHours();
            due("no meeting", 0, () -> Checks.house(x, "room 1;"));
            due("ten", 10, () -> Checks.house(x, "room 1;" + "meet 0 0 0;".repeat(10)));
            due("two", 2, () -> Checks.house(x, "hours 3;room 1;meet 0 0 0;meet 1 0 0;hold 2 0 1 1;"));
            target("0 1 0;");
            rule("1=1");
            x.move(0, 0, 0);
            x.drop(1);
            x.let(0);
            x.image();
            String[] faulty = {"|x", "hours |0;", "room 1;room 1;room 1;|room 1;", "room 1;|hours 5;"};
            for (int i = 0; i < faulty.length; i++) {
                String text = faulty[i].replace("|", "");
                due("fault " + (i + 1), i + 1 - 10, () -> Checks.house(x, text));
                due("count(1): the tape is empty", 0, () -> x.count(1));
                due("told(0)", 3, () -> x.told(0));
                due("told(3)", 2, () -> x.told(3));
                due("told(5)", 1, () -> x.told(5));
                due("told(6)", 1, () -> x.told(6));
                due("hold(0, 3)", 0, () -> x.hold(0, 3));
                due("count(0)", 1, () -> x.count(0));
                due("count(2)", 1, () -> x.count(2));
            }
            x.undo();
            due("yields(0, 1)", 1, () -> bit(x.yields(0, 1)));
        });
        promise(3, "IllegalArgumentException: n is not 0 to the TAPE's bytes (it stays).", () -> {
            x = new YieldedHours();
            wrong("house(1) of none", () -> x.house(1));
            wrong("house(-1) of none", () -> x.house(-1));
            due("house(0) of none", 0, () -> x.house(0));
            Checks.feed(x, "room 1;room 1;      ");
            wrong("house(21)", () -> x.house(21));
            wrong("house(-1)", () -> x.house(-1));
            wrong("house(highest)", () -> x.house(Integer.MAX_VALUE));
            wrong("house(lowest)", () -> x.house(Integer.MIN_VALUE));
            due("count(1): it stays", 20, () -> x.count(1));
            due("house(20)", 0, () -> x.house(20));
            due("told(1): it stayed whole", 2, () -> x.told(1));
        });
    }

    private void readTargetAndRule() {
        promise(4, "Likewise the TARGET (n to 120): how many lines.", () -> {
            house("room 1;meet 0 0 0;meet 1 0 0;");
            Checks.feed(x, "0 1 0;1 2 0;0 3 0;  ");
            due("target(12), the rest not read", 2, () -> x.target(12));
            due("count(1)", 0, () -> x.count(1));
            due("faulty", -8, () -> Checks.target(x, "0 3 0;2 0 0;"));
            due("told(5): the old one stays", 2, () -> x.told(5));
            due("line(0, 1)", 1, () -> x.line(0, 1));
            due("count(1): but not the tape", 0, () -> x.count(1));
            due("target(0)", 0, () -> x.target(0));
            due("told(5)", 0, () -> x.told(5));
            feedTimes(7);
            wrong("target(121)", () -> x.target(121));
            wrong("target(141)", () -> x.target(141));
            wrong("target(-1)", () -> x.target(-1));
            due("count(1): it stays", 140, () -> x.count(1));
            due("target(120)", 0, () -> x.target(120));
            feedTimes(1);
            wrong("target(21) of 20", () -> x.target(21));
            due("target(20) of 20", 0, () -> x.target(20));
        });
        promise(5, "Likewise the RULE (n to 150): 1.", () -> {
            house("room 1;meet 0 0 0;meet 1 0 0;");
            Checks.feed(x, "cost=mycostly");
            due("rule(11), the rest of the letters not read", 1, () -> x.rule(11));
            Checks.feed(x, "1=10 and 1=0        ");
            due("rule(3), the rest of the digits not read", 1, () -> x.rule(3));
            due("count(1)", 0, () -> x.count(1));
            due("yields(0, 1)", 1, () -> bit(x.yields(0, 1)));
            due("faulty", -9, () -> Checks.rule(x, "1=0 1"));
            due("yields(0, 1): the old one stays", 1, () -> bit(x.yields(0, 1)));
            due("rule(0)", -9, () -> x.rule(0));
            due("yields(0, 1): it stays", 1, () -> bit(x.yields(0, 1)));
            feedTimes(8);
            wrong("rule(151)", () -> x.rule(151));
            wrong("rule(161)", () -> x.rule(161));
            wrong("rule(-1)", () -> x.rule(-1));
            due("count(1): it stays", 160, () -> x.count(1));
            due("rule(150): of blanks", -9, () -> x.rule(150));
            due("fault()", 150, () -> x.fault());
            due("count(1): empty", 0, () -> x.count(1));
            feedTimes(1);
            wrong("rule(21) of 20", () -> x.rule(21));
            due("rule(20) of 20", -9, () -> x.rule(20));
        });
    }

    private void faultAndTold() {
        promise(6, "The place of the FAULT of the latest text; NONE without.", () -> {
            x = new YieldedHours();
            due("no text yet", -1, () -> x.fault());
            Checks.house(x, "room 1;x");
            due("of a house", 7, () -> x.fault());
            x.feed(0, 0, 0, 0, 0);
            wrong("house(21)", () -> x.house(21));
            due("a refused call is no text", 7, () -> x.fault());
            due("house(0)", 0, () -> x.house(0));
            due("without", -1, () -> x.fault());
            Checks.target(x, " x");
            due("of a target", 1, () -> x.fault());
            Checks.rule(x, "x");
            due("of a rule, at 0", 0, () -> x.fault());
            Checks.rule(x, "1=1");
            due("without again", -1, () -> x.fault());
        });
        promise(7, "0 HOURS, 1 ROOMS, 2 PEOPLE, 3 MEETINGS, 4 HOLDS, 5 lines of the TARGET, 6 MEETINGS that are OUT.", () -> {
            house("hours 10;room 20;room 20;room 20;" + "person 9 9;".repeat(8) + "meet 9 2 99;".repeat(10)
                + "hold 9 2 16 99;".repeat(4));
            target("3 1 1;4 1 1;");
            int[] most = {10, 3, 8, 10, 4, 2, 0};
            for (int i = 0; i < most.length; i++) {
                int what = i;
                due("told(" + i + ")", most[i], () -> x.told(what));
            }
            for (int m = 0; m < 10; m++) {
                x.drop(m);
            }
            due("told(6): all", 10, () -> x.told(6));
            x.let(0);
            due("told(4): let go or not", 4, () -> x.told(4));
        });
        promise(7, "IllegalArgumentException: another what (so below).", () -> {
            house("room 1;person 0 0;meet 0 0 0;hold 0 0 1 1;");
            wrong("told(-1)", () -> x.told(-1));
            wrong("told(7)", () -> x.told(7));
            for (int i = 0; i < 2; i++) {
                int low = i == 0 ? -1 : Integer.MIN_VALUE;
                int high = i == 0 ? 0 : Integer.MAX_VALUE - 9;
                wrong("meeting below", () -> x.meeting(0, low));
                wrong("meeting above", () -> x.meeting(0, high + 7));
                wrong("person below", () -> x.person(0, low));
                wrong("person above", () -> x.person(0, high + 5));
                wrong("hold below", () -> x.hold(0, low));
                wrong("hold above", () -> x.hold(0, high + 5));
                wrong("fits below", () -> x.fits(0, 0, low));
                wrong("fits above", () -> x.fits(0, 0, high + 4));
                wrong("rings below", () -> x.rings(2, low));
                wrong("rings above", () -> x.rings(2, high + 2));
                wrong("line below", () -> x.line(0, low));
                wrong("line above", () -> x.line(0, high + 3));
                wrong("order below", () -> x.order(low));
                wrong("order above", () -> x.order(high + 2));
                wrong("news below", () -> x.news(0, low));
                wrong("news above", () -> x.news(0, high + 2));
                wrong("fair below", () -> x.fair(low));
                wrong("fair above", () -> x.fair(high + 2));
                wrong("pushes below", () -> x.pushes(0, 0, 0, low));
                wrong("pushes above", () -> x.pushes(0, 0, 0, high + 3));
                wrong("week below", () -> x.week(1, 1, low));
                wrong("week above", () -> x.week(1, 1, high + 3));
                wrong("span below", () -> x.span(1, 1, 1, low));
                wrong("span above", () -> x.span(1, 1, 1, high + 3));
            }
        });
    }
}

/** The terms about pushing and weeks, promises 41 to 51, and how many calls an object is used for. */
final class PushSentences extends SentencePart {
    /** 0 and 1 may both be in one place alone. */
    private static final String ONE_PLACE = "hours 2;room 9;meet 0 0 1;meet 1 0 1;may 0 1 1;may 1 1 1;";
    private static final int[] SEEDS = {0, 1, 2, -1, -2, 12345, 987654321, -987654321, 1 << 16, 1 << 30, 1 << 31,
        Integer.MAX_VALUE, Integer.MIN_VALUE, Integer.MIN_VALUE + 1};

    PushSentences(Sentences sentences) {
        super(sentences);
    }

    @Override
    void run() {
        pushTerm();
        rowTerms();
        ruleTerms();
        stepTerms();
        weekTerms();
        drawTerms();
        yields();
        pushes();
        push();
        week();
        span();
        images();
        statusAndCount();
        lastCall();
    }

    private void pushed(String what, int meeting, int hour, int room, int... where) {
        for (int m = 0; m < where.length; m++) {
            int other = m;
            due(what + ": pushed(" + meeting + ", " + hour + ", " + room + ", " + m + ")", where[m],
                () -> x.pushed(meeting, hour, room, other));
        }
    }

    private void pushTerm() {
        terms(3, "PUSH: a MEETING (not FIXED) goes to a PLACE: all in its way (with whom it has CLASHES 4 or 8 there) leave theirs",
            () -> {
                house("hours 3;room 9;room 9;room 9;person 0 0;person 0 0;meet 0 0 0;meet 1 0 0;meet 1 1 0;meet 1 2 0;"
                    + "who 0 0;who 2 0;who 3 1;");
                due("one for the room, one for a person, not the third", 2, () -> x.pushes(0, 1, 0, 0));
                pushed("they leave", 0, 1, 0, 1, 0, 10, 21);
                due("nobody in its way", 0, () -> x.pushes(0, 2, 0, 0));
                due("to where it is", 0, () -> x.pushes(0, 0, 0, 0));
                due("it goes", 1, () -> x.pushes(0, 2, 0, 1));
                due("it stays", 0, () -> x.pushes(0, 0, 0, 1));
                x.drop(0);
                pushed("from nowhere", 0, 1, 0, 1, 0, 10, 21);
                house("hours 2;room 9;meet 0 0 0;meet 1 0 0;meet 1 0 0;");
                due("two that are in one place", 2, () -> x.pushes(0, 1, 0, 0));
                pushed("two", 0, 1, 0, 1, 0, -1);
                house("hours 2;room 9;meet 0 0 0;fixed 0;");
                due("a fixed one", -1, () -> x.pushes(0, 1, 0, 0));
                due("a fixed one to where it is", -1, () -> x.pushes(0, 0, 0, 0));
            });
        terms(3, "if none of them is FIXED, the PLACE is not held, and it has no CLASHES 1, 2, 16", () -> {
            house("hours 6;room 1;room 0;person 0 0;busy 0 3 3;meet 0 0 0;meet 1 0 0;meet 2 1 0;meet 5 1 0;"
                + "who 0 0;who 2 0;fixed 1;fixed 2;fixed 3;may 0 0 3;may 0 5 5;hold 0 0 1 1;");
            due("a fixed one in the room", -1, () -> x.pushes(0, 1, 0, 0));
            due("a fixed one with its person", -1, () -> x.pushes(0, 2, 0, 0));
            due("a fixed one in the hour alone", 0, () -> x.pushes(0, 5, 0, 0));
            due("held", -1, () -> x.pushes(0, 0, 0, 0));
            due("may not", -1, () -> x.pushes(0, 4, 0, 0));
            due("busy", -1, () -> x.pushes(0, 3, 0, 0));
            due("too small", -1, () -> x.pushes(0, 5, 1, 0));
            x.let(0);
            due("let go", 0, () -> x.pushes(0, 0, 0, 0));
        });
    }

    private void rowTerms() {
        terms(3, "these wait in a row (by number).", () -> {
            // 1 is in the way for a person, 2 for the room
            house("hours 2;room 9;room 9;person 0 0;meet 0 0 0;meet 1 1 0;meet 1 0 0;who 0 0;who 1 0;");
            pushed("1 looks first", 0, 1, 0, 1, 0, 10);
            house("hours 2;room 9;room 9;person 0 0;meet 0 0 0;meet 1 0 0;meet 1 1 0;who 0 0;who 2 0;");
            pushed("1 looks first", 0, 1, 0, 1, 0, 10);
        });
        terms(3, "Then the first of the row looks, PLACE by PLACE, for one without CLASHES", () -> {
            house("hours 3;room 9;room 9;meet 2 0 0;meet 2 1 0;hold 0 0 1 1;");
            pushed("hour 0, room 1, ahead of hour 1, room 0", 0, 2, 1, 12, 10);
            house("hours 3;room 9;room 9;meet 2 0 0;meet 2 1 0;hold 0 0 1 1;hold 0 1 1 1;hold 1 0 1 1;hold 1 1 1 1;");
            pushed("the last place of all, which 0 left", 0, 2, 1, 12, 2);
            house("hours 2;room 9;person 0 0;meet 0 0 0;meet 1 0 0;meet 0 0 0;who 1 0;busy 0 0 0;");
            pushed("none without", 0, 1, 0, 1, -1, 0);
        });
    }

    private void ruleTerms() {
        terms(3, "else for the first without CLASHES 1, 2, 16, not held, where each in its way is not FIXED, and the RULE is so of it "
            + "(no RULE: never): these leave, and wait behind all; it goes there.", () -> {
                // 1 may be in hour 2 alone, where 3 is
                house("hours 3;room 9;room 9;person 0 0;meet 0 0 0;meet 1 0 0;meet 1 1 0;meet 2 0 0;who 0 0;who 2 0;may 1 2 2;"
                    + "hold 2 1 1 1;");
                pushed("no rule", 0, 1, 0, 1, -1, 0, 2);
                rule("1=1");
                due("three look", 3, () -> x.pushes(0, 1, 0, 0));
                pushed("3 waits behind 2", 0, 1, 0, 1, 2, 0, 10);
                rule("1=0");
                pushed("the rule is not so", 0, 1, 0, 1, -1, 0, 2);
                house("hours 2;room 9;room 9;meet 1 1 0;meet 1 0 0;meet 0 1 0;hold 0 0 1 1;hold 1 1 1 1;");
                rule("step=0");
                pushed("hour 0, room 1, ahead of hour 1, room 0", 0, 1, 0, 1, 10, -1);
                // 2 is in the way of 1 in both rooms of hour 1, for a person
                house("hours 3;room 9;room 9;person 0 0;meet 0 0 0;meet 2 0 0;meet 1 1 0;who 1 0;who 2 0;may 1 1 1;");
                rule("hour=1 and room=0");
                pushed("the room that is wanted", 0, 2, 0, 2, 1, 0);
                rule("hour=1 and room=1");
                pushed("the other room", 0, 2, 0, 2, 11, 0);
                // hour 0 would yield, but hour 2 is free
                Checks.house(x, "hours 4;room 9;meet 3 0 0;meet 1 0 0;meet 0 0 0;");
                rule("1=1");
                pushed("one without clashes comes first, though it stands behind", 0, 1, 0, 1, 2, 0);
                house("hours 3;room 9;room 9;person 0 0;meet 0 0 0;meet 1 0 0;meet 1 1 0;meet 2 0 0;who 0 0;who 2 0;may 1 2 2;"
                    + "hold 2 1 1 1;");
                rule("number=3 and mynumber=1 and hour=2 and room=0");
                pushed("who has, who wants, and where", 0, 1, 0, 1, 2, 0, 10);
                // 1 finds 0 where it was itself, 2, 3 and 4 in hours 1, 2 and 3, and hour 4 held
                String row = "hours 5;room 9;meet 4 0 99;meet 0 0 9;meet 1 0 7;meet 2 0 5;meet 3 0 5;hold 4 0 1 1;";
                house(row);
                rule("cost<mycost and step=0");
                pushed("the first that is so: 2", 0, 0, 0, 0, 1, -1, 2, 3);
                rule("cost=5 and step=0");
                pushed("the first that is so: 3", 0, 0, 0, 0, 2, 1, -1, 3);
                rule("cost=99 and step=0");
                pushed("hour 0 itself: who was pushed comes back", 0, 0, 0, -1, 0, 1, 2, 3);
                house(row + "fixed 3;");
                rule("cost=5 and step=0");
                pushed("not a fixed one", 0, 0, 0, 0, 3, 1, 2, -1);
            });
        terms(3, "None such: it is OUT.", () -> {
            house("hours 2;room 9;meet 0 0 0;meet 1 0 0;may 1 1 1;");
            pushed("no rule", 0, 1, 0, 1, -1);
            due("who", 2, () -> x.pushes(0, 1, 0, 2));
            due("it took a step", 1, () -> x.pushes(0, 1, 0, 0));
            house("hours 2;room 9;room 9;person 0 0;meet 0 0 0;meet 1 0 0;meet 0 1 0;who 1 0;who 2 0;may 1 1 1;hold 1 1 1 1;");
            pushed("another one with its person stays", 0, 1, 0, 1, -1, 10);
            house("hours 2;room 9;room 9;person 0 0;meet 0 0 0;meet 1 0 0;meet 1 1 0;who 1 0;who 2 0;may 1 1 1;hold 1 1 1 1;");
            rule("number=0");
            pushed("two in its way, and the rule is so of one", 0, 1, 0, 1, -1, 11);
            rule("number<3 and step<2");
            pushed("of both, in the place that is not held", 0, 1, 0, 0, 1, 10);
        });
    }

    private void stepTerms() {
        terms(3, "Each look is a STEP (numbered from 0 on)", () -> {
            house(ONE_PLACE);
            rule("step=0");
            due("two steps", 2, () -> x.pushes(0, 1, 0, 0));
            due("who is out behind them", 1, () -> x.pushes(0, 1, 0, 2));
            rule("step=1");
            due("one step", 1, () -> x.pushes(0, 1, 0, 0));
            due("who is out behind it", 2, () -> x.pushes(0, 1, 0, 2));
            rule("step<2");
            due("three steps", 3, () -> x.pushes(0, 1, 0, 0));
            due("no step", 0, () -> x.pushes(1, 1, 0, 0));
        });
        terms(3, "behind 100 STEPS all that wait are OUT.", () -> {
            house(ONE_PLACE);
            rule("1=1");
            due("a hundred", 100, () -> x.pushes(0, 1, 0, 0));
            due("1 waits then", 2, () -> x.pushes(0, 1, 0, 2));
            pushed("0 has it", 0, 1, 0, 1, -1);
            rule("step<99");
            due("the last look is in vain", 100, () -> x.pushes(0, 1, 0, 0));
            due("0 is out", -1, () -> x.pushed(0, 1, 0, 0));
            due("1 has it", 1, () -> x.pushed(0, 1, 0, 1));
            rule("step<98");
            due("ninety-nine", 99, () -> x.pushes(0, 1, 0, 0));
            due("1 is out", 2, () -> x.pushes(0, 1, 0, 2));
            rule("step<99+1");
            due("a hundred, as the rule would go on", 100, () -> x.pushes(0, 1, 0, 0));
            house("hours 2;room 9;meet 0 0 1;meet 1 0 1;meet 1 0 1;may 0 1 1;may 1 1 1;may 2 1 1;");
            rule("1=1");
            due("two wait", 5, () -> x.pushes(0, 1, 0, 2));
            pushed("two wait", 0, 1, 0, -1, 1, -1);
        });
        terms(3, "Each that is elsewhere than at first (OUT, too) was moved once more.", () -> {
            house("hours 2;room 9;meet 0 0 5;meet 1 0 3;moved 1 99;may 1 1 1;");
            due("push", 1, () -> x.push(0, 1, 0));
            due("the meeting", 1, () -> x.meeting(0, 4));
            due("out, too", 100, () -> x.meeting(1, 4));
            x.undo();
            rule("cost>mycost");
            due("pushed back", 2, () -> x.push(0, 1, 0));
            due("where it was at first", 0, () -> x.meeting(0, 4));
            due("where that was at first", 99, () -> x.meeting(1, 4));
            house(ONE_PLACE);
            rule("1=1");
            due("a hundred steps", 100, () -> x.push(0, 1, 0));
            due("moved once", 11, () -> 10 * x.meeting(0, 4) + x.meeting(1, 4));
        });
    }

    /** The k-th draw's bits 16 to 30, reckoned in 64 bits. */
    private static int drawn(int seed, int k) {
        long s = seed & 0xffffffffL;
        for (int i = 0; i < k; i++) {
            s = (s * 1103515245L + 12345L) % 4294967296L;
        }
        return (int) (s / 65536 % 32768);
    }

    private void weekTerms() {
        terms(3, "A WEEK by a SEED (without MEETINGS all is refused)", () -> {
            house("hours 3;room 9;person 0 0;");
            for (int n : new int[] {1, 7, 60}) {
                due("moved of " + n, 0, () -> x.week(1, n, 0));
                due("refused of " + n, n, () -> x.week(1, n, 1));
                due("borne", 0, () -> x.week(1, n, 2));
                due("done", 0, () -> x.done(1, n));
                due("span", 0, () -> x.span(1, 20, n, 2));
            }
            house("hours 10;room 9;meet 0 0 0;");
            due("with one meeting", 1, () -> bit(x.week(1, 60, 0) > 0));
        });
        terms(3, "n times a DRAW tells a MEETING, another one an HOUR", () -> {
            house("hours 10;room 9;room 9;room 9;meet 0 2 0;meet 1 2 0;meet 2 2 0;meet 3 2 0;meet 4 2 0;meet 5 2 0;meet 6 2 0;"
                + "meet 7 2 0;meet 8 2 0;meet 9 2 0;");
            for (int seed : SEEDS) {
                int m = drawn(seed, 1) % 10;
                int hour = drawn(seed, 2) % 10;
                due("moved by seed " + seed, bit(m != hour), () -> x.done(seed, 1));
                due("the meeting of seed " + seed, m == hour ? 20 + m : hour, () -> 10 * x.meeting(m, 1) + x.meeting(m, 0));
                x.undo();
            }
        });
        terms(3, "if it is neither FIXED nor OUT, and not in that HOUR, and has no CLASHES in a ROOM then (the least one), it is moved; "
            + "else that is refused.", () -> {
                house("hours 10;room 9;meet 0 0 0;fixed 0;");
                due("fixed", 60, () -> x.week(1, 60, 1));
                house("hours 10;room 9;meet 0 0 0;");
                x.drop(0);
                due("out", 60, () -> x.week(1, 60, 1));
                house("hours 10;room 9;room 9;meet 8 1 0;");
                due("in that hour, though in a higher room", 0, () -> x.done(1, 1));
                // seed 1 tells 0, and hour 8
                String others = "hours 10;room 9;room 9;person 0 0;meet 0 0 0;meet 8 0 0;";
                house(others);
                due("into the least room without clashes", 1, () -> x.done(1, 1));
                due("room 1", 18, () -> 10 * x.meeting(0, 1) + x.meeting(0, 0));
                due("counted", 1, () -> x.meeting(0, 4));
                house(others + "hold 8 1 1 1;");
                due("no room is left", 0, () -> x.done(1, 1));
                house(others + "who 0 0;who 1 0;");
                due("a person is there", 0, () -> x.done(1, 1));
                house(others + "may 0 0 7;may 0 9 9;");
                due("may not", 0, () -> x.done(1, 1));
                house(others + "who 0 0;busy 0 8 8;");
                due("busy", 0, () -> x.done(1, 1));
                house("hours 10;room 1;room 0;person 0 0;meet 0 0 0;meet 8 0 0;who 0 0;");
                due("the other room is too small", 0, () -> x.done(1, 1));
            });
    }

    private void drawTerms() {
        terms(3, "DRAW: the SEED (32 bits) becomes itself times 1,103,515,245, and 12,345 (it wraps)", () -> {
            house("hours 10;room 9;meet 0 0 0;");
            for (int seed : SEEDS) {
                int moved = 0;
                int hour = 0;
                for (int k = 1; k <= 60; k++) {
                    int next = drawn(seed, 2 * k) % 10;
                    moved += next != hour ? 1 : 0;
                    hour = next;
                }
                int last = hour;
                due("moved by seed " + seed, moved, () -> x.done(seed, 60));
                due("the last hour of seed " + seed, last, () -> x.meeting(0, 0));
                due("counted", moved, () -> x.meeting(0, 4));
                x.undo();
            }
        });
        terms(3, "its bits 16 to 30 leave it by how many there are.", () -> {
            // three meetings and seven hours: bit 31, or one bit less, would change what is left
            house("hours 7;room 9;room 9;room 9;meet 0 0 0;meet 0 1 0;meet 0 2 0;");
            for (int seed : SEEDS) {
                int m = drawn(seed, 1) % 3;
                int hour = drawn(seed, 2) % 7;
                due("moved by seed " + seed, bit(hour != 0), () -> x.done(seed, 1));
                due("the hour of seed " + seed, hour, () -> x.meeting(m, 0));
                x.undo();
            }
            house("hours 1;room 9;meet 0 0 0;");
            due("one hour: always 0", 0, () -> x.week(1, 60, 0));
        });
    }

    private void yields() {
        promise(41, "Whether the RULE is so, were a MEETING to want the PLACE of another one (of STEP 0; no RULE: not).", () -> {
            house("hours 4;room 1;room 1;meet 3 1 7;meet 0 0 2;");
            due("no rule", 0, () -> bit(x.yields(0, 1)));
            rule("hour=3 and room=1 and step=0 and number=0 and mynumber=1");
            due("so", 1, () -> bit(x.yields(0, 1)));
            due("the other way round", 0, () -> bit(x.yields(1, 0)));
            rule("hour=0 and room=0 and step=0 and cost=2 and mycost=7");
            due("so, the other way round", 1, () -> bit(x.yields(1, 0)));
            x.drop(0);
            due("one that is out wants it", 1, () -> bit(x.yields(1, 0)));
            rule("step=1");
            due("not of step 1", 0, () -> bit(x.yields(1, 0)));
            house("hours 1;room 1;meet 0 0 0;meet 0 0 0;fixed 0;");
            rule("1=1");
            due("the rule alone, of a fixed one", 1, () -> bit(x.yields(0, 1)));
        });
        promise(41, "IllegalArgumentException: one MEETING, or that one is OUT.", () -> {
            house("hours 4;room 1;meet 0 0 0;meet 1 0 0;");
            rule("1=1");
            wrong("yields(0, 0)", () -> bit(x.yields(0, 0)));
            x.drop(0);
            wrong("yields(0, 1): 0 is out", () -> bit(x.yields(0, 1)));
            wrong("yields(0, 0): one, and out", () -> bit(x.yields(0, 0)));
            due("yields(1, 0)", 1, () -> bit(x.yields(1, 0)));
            x.rule(0);
            x.undo();
            due("back", 1, () -> bit(x.yields(0, 1)));
        });
    }

    private void pushes() {
        promise(42, "PUSH as it would be: 0 how many STEPS, 1 how many are elsewhere than now (the MEETING, too), 2 who is OUT then that "
            + "is not now (bits)", () -> {
                house("hours 3;room 9;meet 0 0 0;meet 1 0 0;meet 2 0 0;may 1 1 1;");
                due("STEPS", 1, () -> x.pushes(0, 1, 0, 0));
                due("elsewhere", 2, () -> x.pushes(0, 1, 0, 1));
                due("OUT", 2, () -> x.pushes(0, 1, 0, 2));
                due("nothing was done", 0, () -> x.count(2) + x.meeting(0, 4) + x.meeting(0, 0) + x.told(6));
                x.drop(2);
                due("OUT now is not counted", 2, () -> x.pushes(0, 1, 0, 2));
                due("nor is it elsewhere", 2, () -> x.pushes(0, 1, 0, 1));
                due("one that is out comes in: elsewhere", 1, () -> x.pushes(2, 2, 0, 1));
                due("to where it is: elsewhere", 0, () -> x.pushes(0, 0, 0, 1));
                due("to where it is: OUT", 0, () -> x.pushes(0, 0, 0, 2));
                house("hours 2;room 9;" + "meet 0 0 0;".repeat(9) + "meet 1 0 0;may 9 1 1;");
                for (int m = 0; m < 8; m++) {
                    x.drop(m);
                }
                due("the highest bit", 512, () -> x.pushes(8, 1, 0, 2));
                house("hours 2;room 9;meet 1 0 0;" + "meet 0 0 0;".repeat(9));
                due("nine in one place: STEPS", 9, () -> x.pushes(0, 0, 0, 0));
                due("nine in one place: elsewhere", 10, () -> x.pushes(0, 0, 0, 1));
                due("nine in one place: OUT", 1020, () -> x.pushes(0, 0, 0, 2));
            });
        promise(42, "NONE: it can't go there, or is FIXED.", () -> {
            house("hours 3;room 9;meet 0 0 0;meet 1 0 0;fixed 1;hold 2 0 1 1;");
            for (int i = 0; i < 3; i++) {
                int what = i;
                due("can't: a fixed one is there", -1, () -> x.pushes(0, 1, 0, what));
                due("can't: held", -1, () -> x.pushes(0, 2, 0, what));
                due("fixed", -1, () -> x.pushes(1, 0, 0, what));
                due("fixed, to where it is", -1, () -> x.pushes(1, 1, 0, what));
            }
        });
        promise(43, "Where another one would be behind it: 10 times the ROOM, and the HOUR; NONE: OUT, or it can't go there.", () -> {
            house("hours 10;room 9;room 9;room 9;meet 0 0 0;meet 9 2 0;meet 8 0 0;fixed 2;");
            pushed("ordinary", 0, 9, 2, 29, 0, 8);
            pushed("nobody in its way", 0, 9, 1, 19, 29, 8);
            due("it can't go there: another", -1, () -> x.pushed(0, 8, 0, 1));
            due("it can't go there: itself", -1, () -> x.pushed(0, 8, 0, 0));
            due("it can't go there: who is in its way", -1, () -> x.pushed(0, 8, 0, 2));
            due("fixed", -1, () -> x.pushed(2, 9, 1, 1));
            x.drop(1);
            due("out already", -1, () -> x.pushed(0, 9, 2, 1));
            house("hours 1;room 9;meet 0 0 0;meet 0 0 0;");
            due("out then", -1, () -> x.pushed(0, 0, 0, 1));
            due("hour 0, room 0", 0, () -> x.pushed(0, 0, 0, 0));
            due("nothing was done", 0, () -> x.told(6));
        });
    }

    private void push() {
        promise(44, "PUSH is done: STEPS; else -64 as in move(), else NONE: it can't go there, or is FIXED.", () -> {
            String house = "hours 3;room 9;meet 0 0 5;meet 1 0 3;fixed 1;meet 2 0 0;";
            house(house);
            due("STEPS", 1, () -> x.push(0, 2, 0));
            due("it is there", 2, () -> x.meeting(0, 0));
            due("the other one too", 0, () -> x.meeting(2, 0));
            due("one act", 1, () -> x.count(2));
            due("no STEPS, where it is", 0, () -> x.push(0, 2, 0));
            due("an act too", 2, () -> x.count(2));
            due("it did not move", 1, () -> x.meeting(0, 4));
            due("can't", -1, () -> x.push(0, 1, 0));
            due("fixed", -1, () -> x.push(1, 0, 0));
            due("no acts of these", 2, () -> x.count(2));
            house("hours 3;room 9;room 9;meet 0 0 5;meet 1 0 3;fixed 1;");
            actsTo30(0, 0, 0, 2, 0);
            due("30 acts", -64, () -> x.push(0, 2, 1));
            due("30 acts, ahead of can't", -64, () -> x.push(0, 1, 0));
            due("30 acts, ahead of fixed", -64, () -> x.push(1, 0, 0));
            due("30 acts, to where it is", -64, () -> x.push(0, x.meeting(0, 0), 0));
            due("count(2)", 30, () -> x.count(2));
            x.undo();
            due("the 30th", 0, () -> x.push(0, 2, 1));
            due("count(2)", 30, () -> x.count(2));
        });
    }

    private void week() {
        promise(45, "A WEEK of n DRAWS (1 to 60) as it would be: 0 how many are moved, 1 the longest row of refused ones, 2 what is BORNE "
            + "at most then.", () -> {
                // seed 1 tells the hours 8, 5, 7, 9
                house("hours 10;room 9;room 9;person 0 0;person 0 0;meet 0 0 0;who 0 0;moved 0 50;");
                due("moved", 4, () -> x.week(1, 4, 0));
                due("no row", 0, () -> x.week(1, 4, 1));
                due("BORNE", 54, () -> x.week(1, 4, 2));
                due("one draw", 1, () -> x.week(1, 1, 0));
                due("nothing was done", 50, () -> x.meeting(0, 4) + x.meeting(0, 0) + x.count(2));
                house("hours 10;room 9;meet 0 0 0;may 0 0 4;may 0 8 9;");
                due("a row in the middle", 2, () -> x.week(1, 4, 1));
                due("moved ahead of it and behind it", 2, () -> x.week(1, 4, 0));
                house("hours 10;room 9;meet 8 0 0;");
                due("a row at first", 1, () -> x.week(1, 4, 1));
                due("moved behind it", 3, () -> x.week(1, 4, 0));
                house("hours 10;room 9;meet 0 0 0;may 0 0 0;may 0 9 9;");
                due("three are refused, one is moved: the row ended", 3, () -> x.week(1, 4, 1));
                due("sixty", 60, () -> {
                    x.drop(0);
                    return x.week(1, 60, 1);
                });
                x.undo();
                due("sixty no more", 3, () -> x.week(1, 4, 1));
                for (int n : new int[] {0, -1, 61, Integer.MAX_VALUE, Integer.MIN_VALUE}) {
                    wrong("week(1, " + n + ", 0)", () -> x.week(1, n, 0));
                }
            });
        promise(46, "A WEEK is done: how many are moved; -64 as in move() (nothing is done).", () -> {
            house("hours 10;room 9;room 9;meet 0 0 0;");
            due("moved", 4, () -> x.done(1, 4));
            due("one act", 1, () -> x.count(2));
            due("there", 9, () -> x.meeting(0, 0));
            due("counted each time", 4, () -> x.meeting(0, 4));
            due("undone at once", 0, () -> x.undo());
            due("as it was", 0, () -> x.meeting(0, 0) + x.meeting(0, 4));
            x.drop(0);
            due("none", 0, () -> x.done(1, 60));
            due("an act too", 2, () -> x.count(2));
            x.undo();
            x.undo();
            for (int n : new int[] {0, -1, 61, Integer.MAX_VALUE, Integer.MIN_VALUE}) {
                wrong("done(1, " + n + ")", () -> x.done(1, n));
            }
            actsTo30(0, 1, 0, 2, 0);
            int hour = x.meeting(0, 0);
            due("30 acts", -64, () -> x.done(1, 4));
            due("nothing is done: hour", hour, () -> x.meeting(0, 0));
            due("nothing is done: times", 30, () -> x.meeting(0, 4));
            wrong("30 acts, no draws", () -> x.done(1, 0));
            x.undo();
            due("the 30th", 4, () -> x.done(1, 4));
        });
    }

    private void span() {
        promise(47, "Of so many WEEKS (1 to 20; seed, seed and 1, ..): 0 the fewest moved, 1 the most, 2 all.", () -> {
            house("hours 10;room 9;meet 8 0 0;");
            // seed 1 tells hour 8 first, 2 does not
            due("one: fewest", 0, () -> x.span(1, 1, 1, 0));
            due("one: most", 0, () -> x.span(1, 1, 1, 1));
            due("two: fewest", 0, () -> x.span(1, 2, 1, 0));
            due("two: most", 1, () -> x.span(1, 2, 1, 1));
            due("two: all", 1, () -> x.span(1, 2, 1, 2));
            int all = 0;
            int fewest = 60;
            int most = 0;
            for (int i = 0; i < 20; i++) {
                int moved = x.week(Integer.MAX_VALUE - 9 + i, 60, 0);
                all += moved;
                fewest = Math.min(fewest, moved);
                most = Math.max(most, moved);
            }
            int[] due = {fewest, most, all};
            for (int i = 0; i < 3; i++) {
                int what = i;
                due("twenty of sixty draws, over the highest seed: " + i, due[i], () -> x.span(Integer.MAX_VALUE - 9, 20, 60, what));
            }
            due("each begins as it is now", 8, () -> x.meeting(0, 0) + x.meeting(0, 4) + x.count(2));
            house("hours 10;room 9;room 9;room 9;meet 0 0 0;");
            due("all moved: fewest", 1, () -> x.span(1, 1, 1, 0));
            for (int many : new int[] {0, -1, 21, Integer.MAX_VALUE, Integer.MIN_VALUE}) {
                wrong("span(1, " + many + ", 1, 0)", () -> x.span(1, many, 1, 0));
            }
            for (int n : new int[] {0, -1, 61, Integer.MAX_VALUE, Integer.MIN_VALUE}) {
                wrong("span(1, 1, " + n + ", 0)", () -> x.span(1, 1, n, 0));
            }
        });
    }

    private void images() {
        promise(48, "An IMAGE of PLACES, how often they were moved, HOLDS, the TARGET, what can be undone (not of the RULE): how many "
            + "there are; -1: there are 3.", () -> {
                house("hours 4;room 9;room 9;meet 0 0 0;meet 1 0 0;hold 3 0 1 1;");
                target("0 2 0;1 3 1;");
                x.move(0, 2, 1);
                due("one", 1, () -> x.image());
                x.move(0, 1, 1);
                x.drop(1);
                x.let(0);
                target("1 1 1;");
                rule("1=1");
                due("two", 2, () -> x.image());
                due("three", 3, () -> x.image());
                due("no fourth", -1, () -> x.image());
                due("count(0)", 3, () -> x.count(0));
                due("restore: the third", 2, () -> x.restore());
                due("another third", 3, () -> x.image());
                due("no fourth again", -1, () -> x.image());
                x.restore();
                x.restore();
                due("restore: the first", 0, () -> x.restore());
                due("PLACES", 1221, () -> 1000 * x.meeting(1, 0) + 100 * x.meeting(0, 0) + 10 * x.told(5) + x.meeting(0, 1));
                due("how often", 1, () -> x.meeting(0, 4));
                due("HOLDS", 1, () -> x.hold(0, 3));
                due("the TARGET", 0, () -> x.line(0, 0));
                due("its second line", 3, () -> x.line(1, 1));
                due("what can be undone", 1, () -> x.count(2));
                due("not the RULE", 1, () -> bit(x.yields(0, 1)));
                due("undone", 0, () -> x.undo());
                due("its place", 0, () -> x.meeting(0, 0) + x.meeting(0, 1) + x.meeting(0, 4));
            });
        promise(49, "All is as in the latest IMAGE, which is gone: how many are left; -1: there is none.", () -> {
            house("hours 4;room 9;meet 0 0 0;");
            due("none", -1, () -> x.restore());
            x.image();
            x.move(0, 1, 0);
            x.image();
            x.move(0, 2, 0);
            due("the latest", 1, () -> x.restore());
            due("its place", 1, () -> x.meeting(0, 0));
            due("its acts", 1, () -> x.count(2));
            due("the one ahead of it", 0, () -> x.restore());
            due("that place", 0, () -> x.meeting(0, 0));
            due("nothing to undo", -1, () -> x.undo());
            due("none is left", -1, () -> x.restore());
            due("count(0)", 0, () -> x.count(0));
            actsTo30(0, 1, 0, 2, 0);
            x.image();
            x.undo();
            x.undo();
            x.drop(0);
            x.move(0, 3, 0);
            due("thirty acts in it", 0, () -> x.restore());
            due("count(2)", 30, () -> x.count(2));
            int hour = x.meeting(0, 0);
            due("undo", 29, () -> x.undo());
            due("the act that was written over since: its place", 3 - hour, () -> x.meeting(0, 0));
            due("its times", 29, () -> x.meeting(0, 4));
            x.image();
            x.feed(0, 0, 0, 0, 0);
            x.restore();
            due("the tape is not of it", 20, () -> x.count(1));
        });
    }

    private void statusAndCount() {
        promise(50, "How many calls were refused: 0 NoSuchElementException, 1 IllegalArgumentException; NONE for others. (No IMAGE keeps "
            + "it.)", () -> {
                house("room 9;person 0 0;meet 0 0 0;hold 0 0 1 1;");
                due("0", 0, () -> x.status(0));
                due("1", 0, () -> x.status(1));
                x.image();
                noSuch("meeting(1, 9)", () -> x.meeting(1, 9));
                noSuch("let(1)", () -> x.let(1));
                wrong("told(7)", () -> x.told(7));
                wrong("house(1)", () -> x.house(1));
                wrong("swap(0, 0)", () -> bit(x.swap(0, 0)));
                due("0", 2, () -> x.status(0));
                due("1", 3, () -> x.status(1));
                x.restore();
                due("0, behind restore", 2, () -> x.status(0));
                due("1, behind restore", 3, () -> x.status(1));
                x.move(0, 0, 0);
                x.undo();
                Checks.house(x, "x");
                Checks.house(x, "");
                x.line(99, 0);
                due("answers below 0 are no refusals: 0", 2, () -> x.status(0));
                due("answers below 0 are no refusals: 1", 3, () -> x.status(1));
                for (int what : new int[] {-1, 2, Integer.MAX_VALUE, Integer.MIN_VALUE}) {
                    due("status(" + what + ")", -1, () -> x.status(what));
                }
                due("others are no refusals", 3, () -> x.status(1));
            });
        promise(51, "0 IMAGES, 1 bytes of the TAPE, 2 acts that can be undone; NONE for others.", () -> {
            house("hours 2;room 9;meet 0 0 0;");
            due("no images", 0, () -> x.count(0));
            due("no bytes", 0, () -> x.count(1));
            due("no acts", 0, () -> x.count(2));
            for (int i = 1; i <= 4; i++) {
                x.image();
                due("images", Math.min(i, 3), () -> x.count(0));
            }
            for (int i = 1; i <= 31; i++) {
                feedTimes(1);
                due("bytes", Math.min(20 * i, 600), () -> x.count(1));
            }
            actsTo30(0, 0, 0, 1, 0);
            due("thirty acts", 30, () -> x.count(2));
            due("-64", -64, () -> x.drop(0));
            due("thirty yet", 30, () -> x.count(2));
            x.undo();
            due("29", 29, () -> x.count(2));
            for (int what : new int[] {-1, 3, Integer.MAX_VALUE, Integer.MIN_VALUE}) {
                due("count(" + what + ")", -1, () -> x.count(what));
            }
            due("others are no refusals", 0, () -> x.status(0) + x.status(1));
        });
    }

    private void lastCall() {
        whole("An object is used for at most 512 calls after it has been made; what later calls answer is free.", () -> {
            // each of the calls up to the 512th is answered
            x = new YieldedHours();
            int calls = 0;
            for (int i = 0; i < 102; i++) {
                x.feed(0x726f6f6d, 0x20393b6d, 0x65657420, 0x30203020, 0x353b2020);
                due("house", 1, () -> x.house(18));
                due("move", 1, () -> x.move(0, 7, 0));
                due("undo", 0, () -> x.undo());
                wrong("told", () -> x.told(-1));
                calls += 5;
            }
            due("the 511th", 102, () -> x.status(1));
            due("the 512th", calls, () -> 5 * x.status(1));
        });
    }
}

/** The terms about the TARGET, people and hours, and promises 26 to 40. */
final class WaySentences extends SentencePart {
    private static final String THREE = "hours 4;room 1;meet 0 0 0;meet 1 0 0;meet 2 0 0;";

    WaySentences(Sentences sentences) {
        super(sentences);
    }

    @Override
    void run() {
        oneByOneTerm();
        waitsAndKnotTerms();
        newsTerms();
        dropsTerms();
        hoursTerms();
        lines();
        order();
        beginAndWaits();
        knotAndNews();
        follow();
        pairAndDrops();
        gapAndTogether();
        fair();
    }

    private void oneByOneTerm() {
        terms(2, "By the TARGET: ONE BY ONE each that is not where it is to be goes there, the PLAN being LAWFUL behind each.", () -> {
            house(THREE);
            target("0 1 0;1 2 0;2 3 0;");
            due("each behind the next", 210, () -> x.order(1));
            target("0 1 0;1 0 0;");
            due("lawful at the end alone", -1, () -> x.order(1));
            due("at once", 1, () -> bit(x.once()));
            target("0 0 0;1 1 0;2 3 0;");
            due("who is there does not go", 2, () -> x.order(1));
            due("one goes", 1, () -> x.order(0));
            // 0 and 1 clash now: the plan is to be lawful behind each, not ahead of the first
            house("hours 4;room 1;meet 0 0 0;meet 0 0 0;meet 1 0 0;");
            target("2 3 0;1 2 0;");
            due("who mends it goes first", 12, () -> x.order(1));
            target("2 3 0;");
            due("never lawful", -1, () -> x.order(1));
            x.drop(1);
            target("1 0 0;0 2 0;");
            due("one that is out goes too, behind 0", 1, () -> x.order(1));
        });
    }

    private void waitsAndKnotTerms() {
        terms(2, "WAITS: MEETINGS not where they are to be, that are in another's ROOM in its HOUR of the TARGET, or share a person "
            + "with it and are in that HOUR.", () -> {
                house("hours 4;room 9;room 9;person 0 0;meet 0 0 0;meet 1 0 0;meet 1 1 0;meet 2 0 0;meet 3 0 0;"
                    + "who 0 0;who 2 0;who 4 0;");
                target("0 1 0;1 2 0;2 3 1;");
                due("one in its room, one with its person", 6, () -> x.waits(0));
                due("3 is in the room, but not to go", 0, () -> x.waits(1));
                due("4 has its person, but is not to go", 0, () -> x.waits(2));
                target("0 1 0;1 1 0;2 3 1;4 1 1;");
                due("1 is where it is to be", 4, () -> x.waits(0));
                due("a room and a person: once", 4, () -> x.waits(4));
                target("0 0 1;3 3 0;");
                due("not for itself", 0, () -> x.waits(0));
                target("0 1 1;1 3 1;3 1 0;");
                due("the hour, but neither room nor person", 0, () -> x.waits(0));
                due("the room in its hour", 2, () -> x.waits(3));
                x.drop(1);
                due("not for one that is out", 0, () -> x.waits(3));
            });
        terms(2, "KNOT: by number, again and again, each that can go there (not FIXED; the PLAN is LAWFUL behind it) goes, till none "
            + "can: who is left.", () -> {
                house(THREE);
                target("0 1 0;1 2 0;2 3 0;");
                due("the last first: three rounds", 0, () -> x.knot());
                target("0 1 0;1 0 0;2 3 0;");
                due("two are left", 3, () -> x.knot());
                house("hours 10;room 1;" + "meet 0 0 0;meet 1 0 0;meet 2 0 0;meet 3 0 0;meet 4 0 0;meet 5 0 0;meet 6 0 0;"
                    + "meet 7 0 0;meet 8 0 0;meet 9 0 0;");
                x.drop(9);
                target("0 1 0;1 2 0;2 3 0;3 4 0;4 5 0;5 6 0;6 7 0;7 8 0;8 9 0;9 0 0;");
                due("ten rounds", 0, () -> x.knot());
                house(THREE + "fixed 2;");
                target("1 2 0;0 1 0;2 3 0;");
                due("a fixed one, and who waits for it", 7, () -> x.knot());
                target("0 1 0;1 3 0;2 0 0;");
                due("a fixed one alone", 4, () -> x.knot());
                // 2 goes ahead of 0 in the first round: 0 can't go any more
                house("hours 5;room 1;room 1;person 0 0;meet 0 0 0;meet 1 0 0;meet 2 0 0;who 0 0;who 2 0;");
                target("0 1 0;1 3 0;2 1 1;");
                due("by number", 1, () -> x.knot());
                house("hours 4;room 1;meet 0 0 0;meet 1 0 0;may 1 0 0;");
                target("0 3 0;");
                due("not lawful behind it, for another's sake", 1, () -> x.knot());
            });
    }

    private void newsTerms() {
        terms(2, "NEWS, told in an HOUR t: a person follows the TARGET from HOUR t and D on, ahead of it the PLAN as it is", () -> {
            house("hours 10;room 9;room 9;room 9;person 0 0;person 0 1;person 0 9;meet 0 0 0;meet 0 1 0;meet 0 2 0;"
                + "who 0 0;who 1 1;who 2 2;");
            target("0 5 0;1 5 1;2 9 2;");
            due("D 0: in that hour", 0, () -> x.news(5, 1) & 1);
            due("D 0: behind it", 1, () -> x.news(6, 1) & 1);
            due("D 1: an hour ahead", 0, () -> x.news(4, 1) & 2);
            due("D 1: in that hour", 2, () -> x.news(5, 1) & 2);
            due("D 9: nine hours ahead", 0, () -> x.news(0, 1) & 4);
            due("D 9: eight hours ahead", 4, () -> x.news(1, 1) & 4);
            due("behind the last hour", 7, () -> x.news(9, 1));
        });
        terms(2, "who is in a MEETING that the TARGET has ahead of that HOUR, and the PLAN does not have in the same HOUR, MISSES it.",
            () -> {
                house("hours 5;room 9;room 9;person 0 0;person 0 0;meet 3 0 0;meet 4 0 0;who 0 0;");
                target("0 0 0;");
                due("not yet ahead", 0, () -> x.news(0, 1));
                due("ahead", 1, () -> x.news(1, 1));
                due("who is in none", 0, () -> x.news(4, 1) & 2);
                target("0 3 1;");
                due("the same hour, another room", 0, () -> x.news(4, 1));
                target("1 0 0;");
                due("one of nobody", 0, () -> x.news(4, 1));
                due("one that is not in the target", 0, () -> x.news(4, 0));
                x.drop(0);
                target("0 3 0;");
                due("the plan does not have it at all", 1, () -> x.news(4, 1));
                target("");
                due("nor has the target", 0, () -> x.news(4, 1));
            });
    }

    private void dropsTerms() {
        terms(3, "DROPS: of all sets of MEETINGS (not FIXED, not OUT)", () -> {
            house("room 9;meet 0 0 0;meet 1 0 0;meet 2 0 0;fixed 1;");
            due("not the fixed one", 5, () -> x.drops());
            x.drop(0);
            due("not who is out", 4, () -> x.drops());
            x.drop(2);
            due("none", 0, () -> x.drops());
            x = new YieldedHours();
            due("no meetings", 0, () -> x.drops());
        });
        terms(3, "without which all two PEOPLE who are in one MEETING (not OUT) are yet in one", () -> {
            house("room 9;person 0 0;person 0 0;person 0 0;meet 0 0 0;meet 1 0 0;meet 2 0 0;meet 3 0 0;"
                + "who 0 0;who 0 1;who 1 1;who 1 2;who 2 0;who 2 1;who 2 2;who 3 0;");
            // 2 has all pairs; 0 and 1 have two of the three; nobody meets another in 3
            due("all but 2", 11, () -> x.drops());
            x.drop(2);
            due("one alone in it", 8, () -> x.drops());
            x.drop(0);
            due("pairs of those that are out need not meet", 8, () -> x.drops());
            house("room 9;person 0 0;person 0 0;meet 0 0 0;meet 1 0 0;who 0 0;who 0 1;who 1 0;who 1 1;fixed 1;");
            due("they meet in the fixed one", 1, () -> x.drops());
            // 6 and 7, the last of 28 pairs, meet in 2 alone
            house("room 9;" + "person 0 0;".repeat(8) + "meet 0 0 0;meet 1 0 0;meet 2 0 0;who 2 6;who 2 7;"
                + "who 0 0;who 0 1;who 0 2;who 0 3;who 0 4;who 0 5;who 0 6;who 1 0;who 1 1;who 1 2;who 1 3;who 1 4;who 1 5;who 1 7;");
            due("the last of all pairs", 0, () -> x.drops());
        });
        terms(3, "that of the most, of alike ones the least bits.", () -> {
            String both = "who 0 0;who 0 1;who 1 0;who 1 1;who 2 0;who 2 1;";
            house("room 9;person 0 0;person 0 0;meet 0 0 0;meet 1 0 0;meet 2 0 0;" + both);
            due("two of three: the least bits", 3, () -> x.drops());
            house("room 9;" + "meet 0 0 0;".repeat(10));
            due("all ten", 1023, () -> x.drops());
            // 0 and 1, or 1 and 2
            house("room 9;person 0 0;person 0 0;person 0 0;meet 0 0 0;meet 1 0 0;meet 2 0 0;"
                + "who 0 0;who 0 1;who 0 2;who 1 0;who 1 1;who 2 1;who 2 2;who 2 0;");
            due("two, not one", 3, () -> x.drops());
            // 0 alone, or all others
            house("room 9;person 0 0;person 0 0;person 0 0;meet 0 0 0;meet 1 0 0;meet 2 0 0;meet 3 0 0;"
                + "who 0 0;who 0 1;who 0 2;who 1 0;who 1 1;who 2 1;who 2 2;who 3 2;who 3 0;");
            due("three, not one", 14, () -> x.drops());
        });
    }

    private void hoursTerms() {
        terms(3, "GAP: HOURS in which told PEOPLE are all neither busy nor in a MEETING.", () -> {
            house("hours 5;room 9;person 0 0;person 0 0;busy 0 0 0;busy 1 4 4;meet 1 0 0;meet 2 0 0;who 0 0;who 1 1;");
            due("0", 28, () -> x.gap(1));
            due("1", 11, () -> x.gap(2));
            due("both", 8, () -> x.gap(3));
            due("of nobody all", 31, () -> x.gap(0));
            x.drop(0);
            due("who is in one that is out", 30, () -> x.gap(1));
            house("hours 10;person 0 0;busy 0 0 9;");
            due("always busy", 0, () -> x.gap(1));
        });
        terms(3, "TOGETHER: the first of so many such HOURS in a row.", () -> {
            house("hours 10;person 0 0;busy 0 0 0;busy 0 3 3;busy 0 7 7;");
            int[] due = {1, 1, 4, -1};
            for (int i = 1; i <= 4; i++) {
                int many = i;
                due("together(1, " + i + ")", due[i - 1], () -> x.together(1, many));
            }
            house("hours 10;person 0 0;busy 0 0 7;");
            due("to the end", 8, () -> x.together(1, 2));
            due("not over the end", -1, () -> x.together(1, 3));
        });
    }

    private void lines() {
        promise(26, "The i-th line of the TARGET: 0 M, 1 H, 2 R; NONE: none such.", () -> {
            house("hours 10;room 1;room 1;room 1;" + "meet 0 0 0;".repeat(10));
            due("no lines", -1, () -> x.line(0, 0));
            target("3 9 2;0 0 0;9 1 1;");
            int[][] due = {{3, 9, 2}, {0, 0, 0}, {9, 1, 1}};
            for (int i = 0; i < 3; i++) {
                for (int w = 0; w < 3; w++) {
                    int line = i;
                    int what = w;
                    due("line(" + i + ", " + w + ")", due[i][w], () -> x.line(line, what));
                }
            }
            for (int i : new int[] {-1, 3, 10, Integer.MAX_VALUE, Integer.MIN_VALUE}) {
                due("line(" + i + ", 0)", -1, () -> x.line(i, 0));
            }
            target("0 0 0;1 0 0;2 0 0;3 0 0;4 0 0;5 0 0;6 0 0;7 0 0;8 0 0;9 4 0;");
            due("the tenth", 94, () -> 10 * x.line(9, 0) + x.line(9, 1));
            target("5 0 0;");
            due("gone", -1, () -> x.line(1, 0));
            wrong("another what, ahead of none such", () -> x.line(99, 3));
        });
        promise(27, "MEETINGS that are not where the TARGET has them, as bits.", () -> {
            house("hours 10;room 1;room 1;room 1;" + "meet 0 0 0;".repeat(10));
            due("no target", 0, () -> x.apart());
            target("0 0 0;1 0 1;2 1 0;9 9 2;");
            due("another room, another hour", 518, () -> x.apart());
            x.drop(0);
            due("out", 519, () -> x.apart());
            x.drop(3);
            due("out, and not in the target", 519, () -> x.apart());
            target("0 1 0;1 1 0;2 1 0;3 1 0;4 1 0;5 1 0;6 1 0;7 1 0;8 1 0;9 1 0;");
            due("all", 1023, () -> x.apart());
            target("");
            due("an empty target", 0, () -> x.apart());
            x = new YieldedHours();
            due("no meetings", 0, () -> x.apart());
        });
        promise(28, "Whether the TARGET (others as they are) is LAWFUL.", () -> {
            house("hours 4;room 1;meet 0 0 0;meet 1 0 0;meet 2 0 0;");
            due("an empty one: as it is", 1, () -> bit(x.once()));
            target("0 1 0;1 0 0;");
            due("two change places", 1, () -> bit(x.once()));
            target("0 2 0;");
            due("another is there", 0, () -> bit(x.once()));
            x.drop(2);
            due("another is out", 1, () -> bit(x.once()));
            target("0 3 0;2 3 0;");
            due("out, but in the target", 0, () -> bit(x.once()));
            house("hours 2;room 1;meet 0 0 0;meet 0 0 0;fixed 0;");
            due("not as it is", 0, () -> bit(x.once()));
            target("0 1 0;");
            due("a fixed one", 1, () -> bit(x.once()));
            due("nothing was done", 0, () -> x.meeting(0, 0));
        });
    }

    private void order() {
        promise(29, "ONE BY ONE: 0 how many go, 1 the first order (MEETING by MEETING) as digits to the base 10", () -> {
            house("hours 10;room 1;room 1;meet 0 0 0;meet 1 0 0;meet 2 0 0;meet 3 0 0;meet 4 0 0;meet 5 0 0;meet 6 0 0;"
                + "meet 7 0 0;meet 8 0 0;meet 9 0 0;");
            due("none go", 0, () -> x.order(0));
            due("no digits", 0, () -> x.order(1));
            target("0 1 0;1 2 0;2 3 0;3 4 0;4 5 0;5 6 0;6 7 0;7 8 0;8 9 0;9 0 1;");
            due("ten go", 10, () -> x.order(0));
            due("more than 32 bits", 9876543210L, () -> x.order(1));
            target("0 0 1;1 1 1;2 2 1;3 3 1;4 4 1;5 5 1;6 6 1;7 7 1;8 8 1;9 9 1;");
            due("the first order: 0 ahead", 123456789L, () -> x.order(1));
            target("0 0 1;");
            due("0 alone goes", 1, () -> x.order(0));
            due("its digit", 0, () -> x.order(1));
            target("3 0 0;0 9 1;");
            due("0 ahead of 3", 3, () -> x.order(1));
            due("two go", 2, () -> x.order(0));
            due("nothing was done", 9, () -> x.apart());
        });
        promise(29, "NONE: by none (or a FIXED one would have to).", () -> {
            house(THREE);
            target("0 1 0;1 0 0;");
            due("a knot: 0", -1, () -> x.order(0));
            due("a knot: 1", -1, () -> x.order(1));
            house(THREE + "fixed 1;");
            target("1 3 0;");
            due("a fixed one: 0", -1, () -> x.order(0));
            due("a fixed one: 1", -1, () -> x.order(1));
            target("1 1 0;0 3 0;");
            due("a fixed one that is there", 1, () -> x.order(0));
            house("hours 4;room 1;meet 0 0 0;meet 0 0 0;");
            due("not lawful, but none has to go", 0, () -> x.order(0));
        });
    }

    private void beginAndWaits() {
        promise(30, "Who could begin (the PLAN is LAWFUL then; not FIXED), as bits.", () -> {
            house("hours 4;room 1;meet 0 0 0;meet 1 0 0;meet 2 0 0;fixed 2;");
            due("no target", 0, () -> x.begin());
            target("0 3 0;1 0 0;2 3 0;");
            due("0: not 1, who waits, nor 2, which is fixed", 1, () -> x.begin());
            target("0 3 0;1 3 0;");
            due("each by itself", 3, () -> x.begin());
            target("0 0 0;1 1 0;");
            due("who is there does not begin", 0, () -> x.begin());
            house("hours 4;room 1;meet 0 0 0;meet 1 0 0;meet 1 0 0;meet 2 0 0;");
            target("0 3 0;1 0 0;2 3 0;");
            due("not lawful then: 1 and 2 clash till one of them goes", 4, () -> x.begin());
            x.drop(3);
            target("3 3 0;2 2 0;");
            due("not lawful behind one that is out", 4, () -> x.begin());
            x.drop(2);
            due("one that is out begins", 12, () -> x.begin());
        });
        promise(31, "WAITS of a MEETING, as bits (0: it is not in the TARGET, or is there).", () -> {
            house("hours 10;room 9;" + "meet 0 0 0;".repeat(9) + "meet 1 0 0;");
            due("no target", 0, () -> x.waits(9));
            target("0 1 0;1 1 0;2 1 0;3 1 0;4 1 0;5 1 0;6 1 0;7 1 0;8 1 0;9 0 0;");
            due("for nine", 511, () -> x.waits(9));
            due("for the ninth", 512, () -> x.waits(0));
            target("0 0 0;1 5 0;");
            due("there", 0, () -> x.waits(0));
            due("not in the target", 0, () -> x.waits(2));
            target("9 0 0;1 5 0;");
            due("those alone that are to go", 2, () -> x.waits(9));
            x.drop(9);
            due("one that is out waits", 2, () -> x.waits(9));
        });
    }

    private void knotAndNews() {
        promise(32, "KNOT, as bits.", () -> {
            house("hours 10;room 1;meet 0 0 0;meet 1 0 0;meet 2 0 0;meet 3 0 0;meet 4 0 0;meet 5 0 0;meet 6 0 0;meet 7 0 0;"
                + "meet 8 0 0;meet 9 0 0;");
            due("no target", 0, () -> x.knot());
            target("0 1 0;1 2 0;2 3 0;3 4 0;4 5 0;5 6 0;6 7 0;7 8 0;8 9 0;9 0 0;");
            due("all ten", 1023, () -> x.knot());
            x.drop(9);
            due("one is out: none is left", 0, () -> x.knot());
            due("nothing was done", 1023, () -> x.apart());
            x = new YieldedHours();
            due("no meetings", 0, () -> x.knot());
        });
        promise(33, "NEWS told in an HOUR: 0 how many MISS, 1 who (bits).", () -> {
            house("hours 10;room 9;" + "person 0 0;".repeat(7) + "person 0 9;meet 9 0 0;meet 8 0 0;"
                + "who 0 0;who 0 1;who 0 2;who 0 3;who 0 4;who 0 5;who 0 6;who 0 7;who 1 0;");
            due("no target: 0", 0, () -> x.news(9, 0));
            due("no target: 1", 0, () -> x.news(9, 1));
            target("0 0 0;1 1 0;");
            due("hour 0: 0", 1, () -> x.news(0, 0));
            due("hour 0: 1", 128, () -> x.news(0, 1));
            due("hour 1: 0", 8, () -> x.news(1, 0));
            due("hour 1: 1", 255, () -> x.news(1, 1));
            due("who misses two counts once", 8, () -> x.news(9, 0));
            YieldedHours y = Checks.told("room 9;person 0 0;person 0 0;" + "meet 7 0 0;".repeat(10) + "who 9 1;");
            Checks.target(y, "9 0 0;");
            due("the tenth meeting", 2, () -> y.news(7, 1));
            wrong("news(10, 0)", () -> x.news(10, 0));
            wrong("news(-1, 0)", () -> x.news(-1, 0));
        });
        promise(34, "The last HOUR in which it can be told so that nobody MISSES; NONE.", () -> {
            x = new YieldedHours();
            due("nobody: the last", 7, () -> x.latest());
            house("hours 10;room 9;person 0 0;person 0 1;meet 9 0 0;meet 8 0 0;who 0 0;who 1 1;");
            due("no target: the last", 9, () -> x.latest());
            target("0 5 0;");
            due("D 0", 5, () -> x.latest());
            target("1 5 0;");
            due("D 1", 4, () -> x.latest());
            target("1 1 0;");
            due("D 1, in the first", 0, () -> x.latest());
            target("1 0 0;");
            due("D 1, too early for all", -1, () -> x.latest());
            target("0 0 0;");
            due("D 0, in the first", 0, () -> x.latest());
        });
    }

    private void follow() {
        promise(35, "All of the TARGET is done at once (it counts as moved, what changes its PLACE): how many (none: nothing is done)",
            () -> {
                house("hours 4;room 1;meet 0 0 0;meet 1 0 0;meet 2 0 0;meet 3 0 0;");
                due("no target", 0, () -> x.follow());
                due("no act", 0, () -> x.count(2));
                target("0 1 0;1 0 0;2 2 0;");
                due("two", 2, () -> x.follow());
                due("one act", 1, () -> x.count(2));
                due("counted", 110, () -> 100 * x.meeting(0, 4) + 10 * x.meeting(1, 4) + x.meeting(2, 4));
                due("there", 0, () -> x.apart());
                due("none any more", 0, () -> x.follow());
                due("no act more", 1, () -> x.count(2));
                x.drop(3);
                target("3 3 0;");
                due("one that was out", 1, () -> x.follow());
                due("counted", 1, () -> x.meeting(3, 4));
                house("hours 2;room 1;meet 0 0 0;meet 0 0 0;");
                target("0 0 0;");
                due("none, lawful or not", 0, () -> x.follow());
            });
        promise(35, "else -64 as in move(), else -1: it is not LAWFUL then, or a FIXED one would move.", () -> {
            house("hours 4;room 1;meet 0 0 0;meet 1 0 0;fixed 1;");
            target("0 1 0;");
            due("not lawful", -1, () -> x.follow());
            target("1 2 0;");
            due("fixed", -1, () -> x.follow());
            target("0 2 0;1 1 0;");
            due("fixed, but there", 1, () -> x.follow());
            x.undo();
            due("nothing stays behind a refused one", 0, () -> x.count(2));
            actsTo30(0, 2, 0, 0, 0);
            target("0 3 0;");
            due("30 acts", -64, () -> x.follow());
            due("count(2)", 30, () -> x.count(2));
            target("0 1 0;");
            due("30 acts, ahead of not lawful", -64, () -> x.follow());
            target("1 3 0;");
            due("30 acts, ahead of fixed", -64, () -> x.follow());
            target("");
            due("none, ahead of 30 acts", 0, () -> x.follow());
            x.undo();
            target("0 3 0;");
            due("the 30th", 1, () -> x.follow());
        });
    }

    private void pairAndDrops() {
        promise(36, "How many MEETINGS (not OUT) two PEOPLE are both in.", () -> {
            house("room 9;" + "person 0 0;".repeat(8) + "meet 0 0 0;".repeat(10) + "who 0 0;who 0 7;who 9 0;who 9 7;who 5 0;who 6 7;");
            due("two", 2, () -> x.pair(0, 7));
            due("the other way round", 2, () -> x.pair(7, 0));
            due("none", 0, () -> x.pair(0, 1));
            x.drop(9);
            due("one is out", 1, () -> x.pair(0, 7));
            x.drop(0);
            due("both are out", 0, () -> x.pair(0, 7));
        });
        promise(36, "IllegalArgumentException: one PERSON.", () -> {
            house("person 0 0;person 0 0;");
            wrong("pair(0, 0)", () -> x.pair(0, 0));
            wrong("pair(1, 1)", () -> x.pair(1, 1));
            due("two", 0, () -> x.pair(0, 1));
        });
        promise(37, "DROPS, as bits.", () -> {
            house("room 9;room 9;person 0 0;person 0 0;meet 0 0 0;meet 1 0 0;meet 2 0 0;who 0 0;who 0 1;who 1 0;who 2 1;who 2 0;");
            due("0 and 1", 3, () -> x.drops());
            x.drop(0);
            due("1 alone", 2, () -> x.drops());
            x.drop(2);
            due("1 yet", 2, () -> x.drops());
            due("nothing was done", 2, () -> x.told(6));
        });
    }

    private void gapAndTogether() {
        promise(38, "GAP of told PEOPLE (bits), as bits of HOURS.", () -> {
            x = new YieldedHours();
            due("of nobody, 8 hours", 255, () -> x.gap(0));
            house("hours 10;" + "person 0 0;".repeat(8) + "busy 7 0 8;busy 0 9 9;");
            due("the last hour", 512, () -> x.gap(128));
            due("all but the last", 511, () -> x.gap(1));
            due("all people", 0, () -> x.gap(255));
            due("all but two", 1023, () -> x.gap(126));
            house("hours 3;room 9;person 0 0;" + "meet 0 0 0;".repeat(9) + "meet 2 0 0;who 9 0;");
            due("the tenth meeting", 3, () -> x.gap(1));
            x.drop(9);
            due("the tenth meeting is out", 7, () -> x.gap(1));
        });
        promise(38, "IllegalArgumentException: bits of no PEOPLE (so below).", () -> {
            x = new YieldedHours();
            wrong("none are told", () -> x.gap(1));
            house("person 0 0;person 0 0;person 0 0;");
            due("all three", 255, () -> x.gap(7));
            for (int people : new int[] {8, 9, 15, -1, Integer.MIN_VALUE, Integer.MAX_VALUE, 1 << 8}) {
                wrong("gap(" + people + ")", () -> x.gap(people));
                wrong("together(" + people + ", 1)", () -> x.together(people, 1));
            }
            house("person 0 0;".repeat(8));
            due("all eight", 255, () -> x.gap(255));
            wrong("gap(256)", () -> x.gap(256));
            wrong("together(256, 1)", () -> x.together(256, 1));
        });
        promise(39, "TOGETHER: so many HOURS (1 to 10); NONE.", () -> {
            house("hours 10;person 0 0;person 0 0;busy 1 1 8;");
            due("1", 0, () -> x.together(1, 1));
            due("10", 0, () -> x.together(1, 10));
            due("1 of two", 0, () -> x.together(3, 1));
            due("2 of two", -1, () -> x.together(3, 2));
            due("10 of two", -1, () -> x.together(3, 10));
            due("10 of nobody", 0, () -> x.together(0, 10));
            for (int many : new int[] {0, -1, 11, 32, 33, Integer.MAX_VALUE, Integer.MIN_VALUE}) {
                wrong("together(1, " + many + ")", () -> x.together(1, many));
            }
            house("hours 3;");
            due("as many as there are", 0, () -> x.together(0, 3));
            due("more than there are", -1, () -> x.together(0, 4));
            due("ten of three", -1, () -> x.together(0, 10));
        });
    }

    private void fair() {
        promise(40, "What BEARING is at most, less the least (what 0), a PERSON who BEARS most (1; the first; NONE).", () -> {
            x = new YieldedHours();
            due("nobody: 0", 0, () -> x.fair(0));
            due("nobody: NONE", -1, () -> x.fair(1));
            house("room 9;person 0 0;meet 0 0 0;who 0 0;moved 0 99;");
            due("one alone: 0", 0, () -> x.fair(0));
            due("one alone: 1", 0, () -> x.fair(1));
            house("room 9;person 0 0;person 0 0;person 0 0;meet 0 0 0;meet 1 0 0;meet 2 0 0;who 0 0;who 1 1;who 2 2;"
                + "moved 0 2;moved 1 7;moved 2 7;");
            due("7 less 2", 5, () -> x.fair(0));
            due("the first of two", 1, () -> x.fair(1));
            x.move(2, 5, 0);
            due("8 less 2", 6, () -> x.fair(0));
            due("the last", 2, () -> x.fair(1));
            x.drop(2);
            due("what is out was moved too", 2, () -> x.fair(1));
            house("room 9;person 0 0;person 0 0;meet 0 0 0;who 0 1;moved 0 7;");
            due("less 0", 7, () -> x.fair(0));
            due("the other one", 1, () -> x.fair(1));
            house("room 9;person 0 0;person 0 0;meet 0 0 0;");
            due("nobody bears: 0", 0, () -> x.fair(0));
            due("nobody bears: the first", 0, () -> x.fair(1));
        });
    }
}

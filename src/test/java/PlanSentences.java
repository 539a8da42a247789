/** The second part of the terms up to rings, and promises 8 to 25. */
final class PlanSentences extends SentencePart {
    /**
     * Three rooms of 4, 2 and 0, four people, five meetings: 0 in hour 0 (people 0, 1), 1 in hour 0 (person 2), 2 in
     * hour 1 (people 0, 2), 3 in hour 2 (nobody), 4 fixed in hour 3 (people 0, 1, 3).
     */
    private static final String HOUSE = "hours 5;room 4;room 2;room 0;"
        + "person 1 0;person 2 1;person 3 2;person 0 9;busy 2 3 4;"
        + "meet 0 0 10;meet 0 1 20;meet 1 0 30;meet 2 2 40;meet 3 0 50;"
        + "who 0 0;who 0 1;who 1 2;who 2 0;who 2 2;who 4 0;who 4 1;who 4 3;"
        + "may 1 0 1;may 1 3 3;fixed 4;moved 2 3;hold 4 1 4 5;hold 2 1 10 2;hold 4 0 0 99;";
    /** Where a meeting of nobody may go to and fro. */
    private static final String TO_AND_FRO = "hours 2;room 1;room 1;meet 0 0 0;meet 0 1 0;fixed 1;meet 1 1 0;";

    PlanSentences(Sentences sentences) {
        super(sentences);
    }

    @Override
    void run() {
        clashes();
        lawfulAndCost();
        fitsTerm();
        ringTerm();
        looking();
        placesAndClashes();
        move();
        dropAndUndo();
        holds();
        fits();
        goesAndHours();
        swapAndRings();
    }

    private void clashes() {
        terms(2, "A PLACE is an HOUR and a ROOM.", () -> {
            house("hours 10;room 1;room 1;room 1;meet 9 2 0;meet 9 1 0;meet 8 2 0;meet 0 0 0;");
            due("at(9, 2)", 0, () -> x.at(9, 2));
            due("at(9, 1)", 1, () -> x.at(9, 1));
            due("at(8, 2)", 2, () -> x.at(8, 2));
            due("at(0, 0)", 3, () -> x.at(0, 0));
            due("clashing()", 0, () -> x.clashing());
        });
        terms(2, "CLASHES of a MEETING in a PLACE (others where they are; it is not where it was), as bits", () -> {
            house("hours 2;room 9;room 9;person 0 0;meet 0 0 0;who 0 0;");
            due("its own place", 0, () -> x.clash(0, 0, 0));
            due("its own hour: not with itself", 0, () -> x.clash(0, 0, 1));
            house("hours 2;room 1;person 0 0;person 0 0;meet 0 0 0;meet 1 0 0;who 0 0;who 0 1;who 1 1;may 0 0 0;busy 0 1 1;");
            due("all of them", 31, () -> x.clash(0, 1, 0));
            x.drop(0);
            due("all of them, of one that is out", 31, () -> x.clash(0, 1, 0));
            x.drop(1);
            due("the other one is nowhere", 19, () -> x.clash(0, 1, 0));
        });
        terms(2, "1 it may not be in that HOUR", () -> {
            house("hours 4;room 1;meet 0 0 0;may 0 1 2;");
            int[] due = {1, 0, 0, 1};
            for (int h = 0; h < 4; h++) {
                int hour = h;
                due("hour " + h, due[h], () -> x.clash(0, hour, 0));
            }
        });
        terms(2, "2 one of its PEOPLE is busy in it", () -> {
            house("hours 4;room 9;person 0 0;person 0 0;busy 1 1 2;meet 0 0 0;meet 3 0 0;meet 3 0 0;who 0 0;who 0 1;who 1 0;");
            int[] due = {0, 2, 2, 0};
            for (int h = 0; h < 4; h++) {
                int hour = h;
                due("one of two, hour " + h, due[h], () -> x.clash(0, hour, 0) & 2);
            }
            due("not the other one", 0, () -> x.clash(1, 1, 0));
            due("nobody is in it", 0, () -> x.clash(2, 1, 0));
        });
        terms(2, "4 one is in another MEETING in it", () -> {
            house("hours 2;room 9;room 9;person 0 0;person 0 0;meet 0 0 0;meet 1 0 0;meet 1 0 0;who 0 0;who 0 1;who 1 1;who 2 0;");
            due("one of two", 4, () -> x.clash(1, 0, 1));
            due("with two of them", 4, () -> x.clash(0, 1, 1));
            due("none in it", 0, () -> x.clash(1, 1, 1));
            x.drop(0);
            due("the other one is out", 0, () -> x.clash(1, 0, 1));
        });
        terms(2, "8 another MEETING has that ROOM in it, or it is held", () -> {
            house("hours 3;room 9;room 9;meet 0 0 0;meet 1 0 0;hold 1 0 1 1;hold 2 1 1 1;hold 2 1 1 1;");
            due("another has it", 8, () -> x.clash(1, 0, 0));
            due("it has it itself, and it is held", 8, () -> x.clash(1, 1, 0));
            due("another has it, and it is held", 8, () -> x.clash(0, 1, 0));
            due("the other room", 0, () -> x.clash(1, 0, 1));
            due("held twice", 8, () -> x.clash(0, 2, 1));
            x.let(1);
            due("held once", 8, () -> x.clash(0, 2, 1));
            x.let(2);
            due("let go", 0, () -> x.clash(0, 2, 1));
        });
        terms(2, "16 the ROOM holds fewer.", () -> {
            house("hours 2;room 2;room 1;room 0;person 0 0;person 0 0;meet 0 0 0;meet 1 0 0;who 0 0;who 0 1;");
            due("as many", 0, () -> x.clash(0, 0, 0));
            due("one fewer", 16, () -> x.clash(0, 0, 1));
            due("none", 16, () -> x.clash(0, 0, 2));
            due("nobody in a room of none", 0, () -> x.clash(1, 0, 2));
        });
    }

    private void lawfulAndCost() {
        terms(2, "A PLAN is LAWFUL, if no MEETING that is not OUT (of the PLAN) has any where it is.", () -> {
            x = new YieldedHours();
            due("no meeting", 1, () -> bit(x.once()));
            house("hours 2;room 1;meet 0 0 0;meet 0 0 0;meet 1 0 0;may 2 0 0;");
            due("three that clash", 0, () -> bit(x.once()));
            x.drop(0);
            due("one that clashes", 0, () -> bit(x.once()));
            x.drop(2);
            due("those that would clash are out", 1, () -> bit(x.once()));
            x.drop(1);
            due("all out", 1, () -> bit(x.once()));
        });
        terms(2, "COST of MEETINGS that move: all their W, and what it costs to ask each of their PEOPLE (for each of them).", () -> {
            house("hours 2;room 9;room 9;person 9 0;person 4 0;meet 0 0 99;meet 1 0 50;meet 1 1 7;"
                + "who 0 0;who 1 1;who 0 1;hold 0 1 1 1;");
            // 0 goes to hour 1, where it shares a person with 1, which changes places with it
            due("fits: two of three move, person 1 is asked twice", 99 + 9 + 4 + 50 + 4, () -> x.fits(0, 1, 3));
            due("fits: none moves", 0, () -> x.fits(0, 0, 3));
            due("fits: one that costs nothing but itself", 7, () -> x.fits(2, 1, 3) + 7);
            house("hours 2;room 9;person 0 0;meet 0 0 0;who 0 0;");
            due("fits: moves for nothing", 0, () -> x.fits(0, 1, 3));
        });
        terms(2, "A person BEARS as often as MEETINGS were moved in which that person is.", () -> {
            house("hours 3;room 9;person 0 0;person 0 0;person 0 0;meet 0 0 0;meet 1 0 0;who 0 0;who 1 0;who 1 1;moved 1 99;");
            due("both", 99, () -> x.person(0, 4));
            due("one", 99, () -> x.person(1, 4));
            due("in none", 0, () -> x.person(2, 4));
            x.move(0, 2, 0);
            due("one more", 100, () -> x.person(0, 4));
            due("not that one", 99, () -> x.person(1, 4));
            x.drop(1);
            due("out, but it was moved", 100, () -> x.person(0, 4));
            house("room 9;person 0 0;" + "meet 0 0 0;".repeat(10) + "who 0 0;who 1 0;who 9 0;moved 0 99;moved 1 99;moved 9 99;"
                + "moved 5 99;");
            due("the tenth is moved", 1, () -> x.move(9, 7, 0));
            due("three of ten", 298, () -> x.person(0, 4));
        });
    }

    private void fitsTerm() {
        terms(2, "FITS: a MEETING goes to an HOUR (into any ROOM; it may stay, too)", () -> {
            house("hours 2;room 9;room 9;room 9;meet 0 0 5;meet 1 0 5;meet 1 1 5;fixed 1;fixed 2;");
            due("into the last room", 20, () -> 10 * x.fits(0, 1, 2) + x.fits(0, 1, 0));
            due("it may stay", 0, () -> x.fits(0, 0, 0));
            due("for nothing", 0, () -> x.fits(0, 0, 3));
            due("goes: where it is", 0, () -> x.goes(0, 0, 0));
            house("hours 1;room 9;room 9;meet 0 1 5;hold 0 0 1 1;");
            due("it can stay alone", 1, () -> x.fits(0, 0, 2));
        });
        terms(2, "and some others (not FIXED, not OUT; 3 at most)", () -> {
            String three = "hours 2;room 5;room 5;room 5;person 0 0;person 0 0;person 0 0;meet 0 0 0;meet 1 0 1;meet 1 1 1;"
                + "meet 1 2 1;who 0 0;who 0 1;who 0 2;who 1 0;who 2 1;who 3 2;";
            house(three);
            due("three", 3, () -> x.fits(0, 1, 0));
            due("which", 14, () -> x.fits(0, 1, 1));
            due("their cost", 3, () -> x.fits(0, 1, 3));
            house(three + "fixed 2;");
            due("a fixed one", -1, () -> x.fits(0, 1, 0));
            house(three);
            x.drop(2);
            due("one is out", 10, () -> x.fits(0, 1, 1));
            // each that goes takes the place of the next one
            house("hours 6;room 9;room 0;room 0;" + "person 0 0;".repeat(5) + "meet 0 0 1;meet 1 0 1;meet 2 0 1;meet 3 0 1;"
                + "meet 4 0 1;who 0 0;who 1 1;who 2 2;who 3 3;who 4 4;may 0 0 1;may 1 1 2;may 2 2 3;may 3 3 4;may 4 4 5;");
            due("four", -1, () -> x.fits(0, 1, 0));
            due("four, by the cost", -1, () -> x.fits(0, 1, 3));
            x.drop(4);
            due("three of them", 3, () -> x.fits(0, 1, 0));
            due("the last of them", 4, () -> x.goes(0, 1, 3));
            due("three and itself, by the cost", 4, () -> x.fits(0, 1, 3));
            // 2 has to go to hour 1 or 2, and 3 to hour 2; were 1 one of the others, it could leave hour 1 again
            house("hours 6;room 9;meet 5 0 0;fixed 0;meet 0 0 0;meet 3 0 0;meet 4 0 0;may 2 1 2;may 3 2 2;");
            due("it is none of the others", -1, () -> x.fits(1, 1, 0));
            due("two go, it stays", 2, () -> x.fits(1, 0, 0));
        });
        terms(2, "each to another PLACE than its own", () -> {
            house("hours 2;room 1;meet 0 0 0;meet 0 0 3;");
            due("of two in a place the other one goes", 1, () -> x.goes(1, 0, 0));
            house("hours 1;room 1;meet 0 0 0;meet 0 0 3;");
            due("it has no other place", -1, () -> x.fits(0, 0, 0));
            house("hours 1;room 1;room 1;meet 0 0 0;meet 0 1 3;may 0 0 0;hold 0 1 1 1;");
            due("it is held, and no other place is left", -1, () -> x.fits(0, 0, 0));
            house("hours 2;room 2;room 1;person 0 0;person 0 0;meet 0 0 0;meet 1 0 0;who 0 0;who 0 1;hold 0 0 1 1;hold 0 1 1 1;");
            due("another room of its hour is another place", 11, () -> x.goes(0, 1, 1));
        });
        terms(2, "so that the PLAN is LAWFUL: FEWEST others (of alike ones the least bits)", () -> {
            // hour 1 is full of two; each could go alone, and 2 costs less than 1
            house("hours 2;room 1;room 1;meet 0 0 1;meet 1 0 50;meet 1 1 3;");
            due("fewest", 1, () -> x.fits(0, 1, 0));
            due("the least bits", 2, () -> x.fits(0, 1, 1));
            // one dear meeting, or two cheap ones
            house("hours 3;room 1;room 1;meet 0 0 0;meet 1 0 40;meet 1 1 1;meet 0 1 1;may 2 0 1;hold 0 0 1 1;");
            due("fewest: the dear one", 1, () -> x.fits(0, 1, 0));
            due("which", 2, () -> x.fits(0, 1, 1));
            // 2 and 3 clash whatever 0 does: not lawful with fewer
            house("hours 3;room 1;meet 0 0 0;meet 2 0 0;meet 2 0 0;");
            due("others that clash", 2, () -> x.fits(0, 0, 1));
            // another one is where it is held, and can't go anywhere
            house("hours 2;room 9;meet 0 0 1;meet 1 0 1;hold 0 0 1 1;");
            due("not lawful whoever goes", -1, () -> x.fits(1, 1, 0));
            x.let(0);
            due("lawful, as it is let go", 0, () -> x.fits(1, 1, 0));
            // 0 and 1 together, or 2 alone, which has higher bits
            house("hours 3;room 9;room 9;meet 1 0 0;meet 0 0 0;meet 1 1 0;meet 2 0 0;may 0 0 1;hold 0 1 1 1;");
            due("one rather than two", 4, () -> x.fits(3, 1, 1));
            due("where it goes", 2, () -> x.goes(3, 1, 2));
            due("those two stay", -2, () -> x.goes(3, 1, 0) + x.goes(3, 1, 1));
        });
        terms(2, "then for the MEETING the least ROOM", () -> {
            house("hours 2;room 1;room 1;room 1;meet 0 1 5;meet 1 0 1;");
            due("the least, though it could stay", 0, () -> x.fits(0, 0, 2));
            due("goes", 0, () -> x.goes(0, 0, 0));
            due("the cheapest stays", 0, () -> x.fits(0, 0, 3));
            due("the least that is free", 1, () -> x.fits(0, 1, 2));
        });
        terms(2, "then for each of them by number the first PLACE (HOUR by HOUR, ROOM by ROOM)", () -> {
            // 0 and 1 are both to leave hour 2; 0 takes the first place, 1 the next
            house("hours 4;room 5;room 5;person 0 0;person 0 0;meet 2 0 0;meet 2 1 0;meet 3 0 0;meet 0 0 0;"
                + "who 0 0;who 1 1;who 2 0;who 2 1;");
            due("who goes", 3, () -> x.fits(2, 2, 1));
            due("0: hour 0, room 1", 10, () -> x.goes(2, 2, 0));
            due("1: hour 1, room 0, ahead of hour 3", 1, () -> x.goes(2, 2, 1));
            // the first place of 0 is given up, if 1 could go nowhere then
            house("hours 3;room 5;room 5;person 0 0;person 0 0;meet 2 0 0;meet 2 1 0;meet 1 0 0;who 0 0;who 1 1;who 2 0;who 2 1;"
                + "hold 0 1 1 1;hold 1 1 1 1;may 1 0 0;may 1 2 2;");
            due("1 has hour 0 alone", 0, () -> x.goes(2, 2, 1));
            due("0 takes the next", 1, () -> x.goes(2, 2, 0));
        });
        terms(2, "CHEAPEST: the least COST of all by which it fits (the MEETING's own, if its PLACE changes).", () -> {
            house("hours 3;room 1;room 1;meet 0 0 0;meet 1 0 40;meet 1 1 1;meet 0 1 1;may 2 0 1;hold 0 0 1 1;");
            due("two cheap ones", 2, () -> x.fits(0, 1, 3));
            house("hours 2;room 1;room 1;meet 0 0 9;meet 1 0 50;meet 1 1 3;");
            due("its own, and the cheaper one", 12, () -> x.fits(0, 1, 3));
            due("it stays", 0, () -> x.fits(0, 0, 3));
            house("hours 2;room 1;room 1;meet 0 0 99;meet 0 0 5;meet 1 0 1;");
            due("the other one goes, it stays", 5, () -> x.fits(0, 0, 3));
            house("hours 1;room 1;room 1;meet 0 0 7;meet 0 0 99;");
            due("another room of its hour is another place", 7, () -> x.fits(0, 0, 3));
        });
        terms(2, "A FIXED one stays in its PLACE.", () -> {
            house("hours 2;room 5;room 5;meet 0 1 7;meet 0 1 5;fixed 0;");
            due("in its room, not the least", 1, () -> x.fits(0, 0, 2));
            due("the other one goes", 2, () -> x.fits(0, 0, 1));
            due("goes", 10, () -> x.goes(0, 0, 0));
            due("the other's cost alone", 5, () -> x.fits(0, 0, 3));
            house("hours 1;room 5;room 5;meet 0 0 7;hold 0 0 1 1;fixed 0;");
            due("it can't stay", -1, () -> x.fits(0, 0, 0));
        });
    }

    private void ringTerm() {
        terms(2, "A RING: 2 to 4 MEETINGS, not FIXED, not OUT", () -> {
            house("hours 4;room 1;meet 0 0 0;meet 1 0 0;meet 2 0 0;meet 3 0 0;");
            int[] due = {6, 8, 6};
            for (int i = 2; i <= 4; i++) {
                int many = i;
                due("rings(" + i + ", 0)", due[i - 2], () -> x.rings(many, 0));
            }
            wrong("rings(1, 0)", () -> x.rings(1, 0));
            wrong("rings(5, 0)", () -> x.rings(5, 0));
            x.drop(3);
            due("one out: of two", 3, () -> x.rings(2, 0));
            due("one out: of three", 2, () -> x.rings(3, 0));
            due("one out: of four", 0, () -> x.rings(4, 0));
            house("hours 4;room 1;meet 0 0 0;meet 1 0 0;meet 2 0 0;meet 3 0 0;fixed 0;");
            due("one fixed: of two", 3, () -> x.rings(2, 0));
            due("one fixed: the first", 12, () -> x.rings(2, 1));
            due("one fixed: of four", 0, () -> x.rings(4, 0));
            house("hours 4;room 1;meet 0 0 0;");
            due("one alone", 0, () -> x.rings(2, 0));
        });
        terms(2, "each to the PLACE of the next one, the last to the first's, so that the PLAN is LAWFUL (told by its least "
            + "MEETING first).", () -> {
                // 0 may go to hour 1 alone, 1 to 2, 2 to 0
                house("hours 3;room 1;meet 0 0 0;meet 1 0 0;meet 2 0 0;may 0 1 1;may 1 2 2;may 2 0 0;");
                due("one ring", 1, () -> x.rings(3, 0));
                due("0, 1, 2", 12, () -> x.rings(3, 1));
                due("none of two", 0, () -> x.rings(2, 0));
                // 0 to 2, 2 to 1, 1 to 0
                house("hours 3;room 1;meet 0 0 0;meet 1 0 0;meet 2 0 0;may 0 2 2;may 2 1 1;may 1 0 0;");
                due("the other way", 21, () -> x.rings(3, 1));
                // another one clashes whatever they do
                house("hours 3;room 1;meet 0 0 0;meet 1 0 0;meet 2 0 0;may 2 0 0;");
                due("not lawful", 0, () -> bit(x.swap(0, 1)));
                due("lawful, as it goes too", 1, () -> x.rings(2, 0));
                due("that one", 2, () -> x.rings(2, 1));
            });
    }

    private void looking() {
        promise(8, "Of a MEETING: 0 HOUR, 1 ROOM (NONE: OUT), 2 W, 3 1 FIXED, 0 not, 4 how often it was moved, 5 its PEOPLE "
            + "(bits), 6 HOURS in which it may be (bits).", () -> {
                house(HOUSE);
                long[][] meetings = {{0, 0, 10, 0, 0, 3, 31}, {0, 1, 20, 0, 0, 4, 11}, {1, 0, 30, 0, 3, 5, 31},
                    {2, 2, 40, 0, 0, 0, 31}, {3, 0, 50, 1, 0, 11, 31}};
                for (int m = 0; m < 5; m++) {
                    for (int i = 0; i < 7; i++) {
                        int meeting = m;
                        int what = i;
                        due("meeting(" + m + ", " + i + ")", meetings[m][i], () -> x.meeting(meeting, what));
                    }
                }
                x.drop(0);
                due("out: HOUR", -1, () -> x.meeting(0, 0));
                due("out: ROOM", -1, () -> x.meeting(0, 1));
                due("out: PEOPLE yet", 3, () -> x.meeting(0, 5));
                house("hours 10;room 9;meet 9 0 0;" + "person 0 0;".repeat(8) + "who 0 0;who 0 1;who 0 2;who 0 3;who 0 4;"
                    + "who 0 5;who 0 6;who 0 7;");
                due("all PEOPLE", 255, () -> x.meeting(0, 5));
                due("all HOURS", 1023, () -> x.meeting(0, 6));
            });
        promise(8, "NoSuchElementException: no such MEETING, ROOM, PERSON, HOLD (so below, ahead of others).", () -> {
            house("hours 3;room 1;room 1;person 0 0;person 0 0;meet 0 0 0;meet 1 0 0;hold 2 0 1 1;hold 2 1 1 1;");
            for (int i : new int[] {-1, 2, Integer.MAX_VALUE, Integer.MIN_VALUE}) {
                // whatever else is wrong, too
                noSuch("meeting", () -> x.meeting(i, 9));
                noSuch("person", () -> x.person(i, 9));
                noSuch("at", () -> x.at(9, i));
                noSuch("where", () -> x.where(i, 9));
                noSuch("clash: meeting", () -> x.clash(i, 9, 0));
                noSuch("clash: room", () -> x.clash(0, 9, i));
                noSuch("free", () -> x.free(i));
                noSuch("move: meeting", () -> x.move(i, 9, 0));
                noSuch("move: room", () -> x.move(0, 9, i));
                noSuch("drop", () -> x.drop(i));
                noSuch("let", () -> x.let(i));
                noSuch("hold", () -> x.hold(i, 9));
                noSuch("fits", () -> x.fits(i, 9, 9));
                noSuch("goes: meeting", () -> x.goes(i, 9, 0));
                noSuch("goes: other", () -> x.goes(0, 9, i));
                noSuch("hours", () -> x.hours(i));
                noSuch("swap: meeting", () -> bit(x.swap(i, 0)));
                noSuch("swap: other", () -> bit(x.swap(0, i)));
                noSuch("swap: both", () -> bit(x.swap(i, i)));
                noSuch("waits", () -> x.waits(i));
                noSuch("pair: person", () -> x.pair(i, 0));
                noSuch("pair: other", () -> x.pair(0, i));
                noSuch("pair: both", () -> x.pair(i, i));
                noSuch("yields: other", () -> bit(x.yields(i, 0)));
                noSuch("yields: meeting", () -> bit(x.yields(0, i)));
                noSuch("yields: both", () -> bit(x.yields(i, i)));
                noSuch("pushes: meeting", () -> x.pushes(i, 9, 0, 9));
                noSuch("pushes: room", () -> x.pushes(0, 9, i, 9));
                noSuch("pushed: meeting", () -> x.pushed(i, 9, 0, 0));
                noSuch("pushed: room", () -> x.pushed(0, 9, i, 0));
                noSuch("pushed: other", () -> x.pushed(0, 9, 0, i));
                noSuch("push: meeting", () -> x.push(i, 9, 0));
                noSuch("push: room", () -> x.push(0, 9, i));
            }
            due("status(0)", 4 * 33, () -> x.status(0));
            due("status(1)", 0, () -> x.status(1));
        });
        promise(9, "Of a PERSON: 0 A, 1 D, 2 HOURS in which that person is busy (bits), 3 in how many MEETINGS that are not OUT, "
            + "4 how much that person BEARS.", () -> {
                house(HOUSE);
                long[][] people = {{1, 0, 0, 3, 3}, {2, 1, 0, 2, 0}, {3, 2, 24, 2, 3}, {0, 9, 0, 1, 0}};
                for (int p = 0; p < 4; p++) {
                    for (int i = 0; i < 5; i++) {
                        int person = p;
                        int what = i;
                        due("person(" + p + ", " + i + ")", people[p][i], () -> x.person(person, what));
                    }
                }
                x.drop(2);
                due("one is out", 2, () -> x.person(0, 3));
                x.drop(0);
                due("two are out", 1, () -> x.person(0, 3));
            });
    }

    private void placesAndClashes() {
        promise(10, "The MEETING that is in a PLACE (of several the least); NONE.", () -> {
            house("hours 3;room 9;room 9;meet 2 1 0;meet 2 0 0;meet 2 0 0;");
            due("none in hour 0", -1, () -> x.at(0, 0));
            due("one", 0, () -> x.at(2, 1));
            due("the least of two", 1, () -> x.at(2, 0));
            due("none", -1, () -> x.at(1, 0));
            x.drop(1);
            due("the other one", 2, () -> x.at(2, 0));
            x.drop(2);
            due("none is left", -1, () -> x.at(2, 0));
            house("hours 3;room 9;" + "meet 0 0 0;".repeat(9) + "meet 2 0 0;");
            due("none of ten", -1, () -> x.at(1, 0));
            due("the least of nine", 0, () -> x.at(0, 0));
            due("the tenth", 9, () -> x.at(2, 0));
        });
        promise(10, "IllegalArgumentException: no such HOUR (so below).", () -> {
            house("hours 3;room 1;person 0 0;meet 0 0 0;meet 2 0 0;");
            for (int hour : new int[] {-1, 3, 10, Integer.MAX_VALUE, Integer.MIN_VALUE}) {
                wrong("at", () -> x.at(hour, 0));
                wrong("where", () -> x.where(0, hour));
                wrong("clash", () -> x.clash(0, hour, 0));
                wrong("move", () -> x.move(0, hour, 0));
                wrong("fits", () -> x.fits(0, hour, 0));
                wrong("goes", () -> x.goes(0, hour, 0));
                wrong("news", () -> x.news(hour, 0));
                wrong("pushes", () -> x.pushes(0, hour, 0, 0));
                wrong("pushed", () -> x.pushed(0, hour, 0, 1));
                wrong("push", () -> x.push(0, hour, 0));
            }
            due("the last one", 1, () -> x.at(2, 0));
        });
        promise(11, "In which MEETING a PERSON is in an HOUR (of several the least); NONE.", () -> {
            house("hours 3;room 9;room 9;person 0 0;person 0 0;meet 2 1 0;meet 2 0 0;meet 2 0 0;meet 0 0 0;who 2 0;who 1 0;who 3 0;");
            due("one", 3, () -> x.where(0, 0));
            due("the least of two", 1, () -> x.where(0, 2));
            due("none in the hour", -1, () -> x.where(0, 1));
            due("in none at all", -1, () -> x.where(1, 2));
            x.drop(1);
            due("the other one", 2, () -> x.where(0, 2));
            x.drop(2);
            due("none is left", -1, () -> x.where(0, 2));
            house("hours 3;room 9;person 0 0;person 0 0;" + "meet 0 0 0;".repeat(9) + "meet 2 0 0;who 9 0;who 0 1;");
            due("none of ten", -1, () -> x.where(0, 0));
            due("the tenth", 9, () -> x.where(0, 2));
            due("the first", 0, () -> x.where(1, 0));
        });
        promise(12, "CLASHES of a MEETING in a PLACE.", () -> {
            house(HOUSE);
            due("none", 0, () -> x.clash(0, 0, 0));
            due("8", 8, () -> x.clash(0, 0, 1));
            due("1", 1, () -> x.clash(1, 2, 0));
            due("2", 2, () -> x.clash(1, 3, 1));
            due("1, 2 and 8", 11, () -> x.clash(1, 4, 1));
            due("4 and 8", 12, () -> x.clash(2, 0, 0));
            due("4", 4, () -> x.clash(0, 1, 1));
            due("16", 16, () -> x.clash(0, 4, 2));
        });
        promise(13, "MEETINGS (not OUT) that have CLASHES where they are, as bits.", () -> {
            house(HOUSE);
            due("none", 0, () -> x.clashing());
            house("hours 10;room 20;" + "meet 9 0 0;".repeat(10));
            due("all ten", 1023, () -> x.clashing());
            for (int m = 0; m < 8; m++) {
                x.drop(m);
            }
            due("two", 768, () -> x.clashing());
            x.drop(8);
            due("one alone has none", 0, () -> x.clashing());
            x.drop(9);
            due("all out", 0, () -> x.clashing());
            x = new YieldedHours();
            due("no meetings", 0, () -> x.clashing());
        });
        promise(14, "How many PLACES there are for a MEETING without CLASHES.", () -> {
            house("hours 10;room 1;room 1;room 1;meet 0 0 0;");
            due("all, its own too", 30, () -> x.free(0));
            house("hours 1;room 1;meet 0 0 0;meet 0 0 0;");
            due("none", 0, () -> x.free(0));
            x.drop(1);
            due("its own", 1, () -> x.free(0));
            x.drop(0);
            due("of one that is out", 1, () -> x.free(1));
            house(HOUSE);
            due("15 less 4 with others, less 3 that are held", 8, () -> x.free(3));
            x.let(0);
            due("one hold less", 9, () -> x.free(3));
        });
    }

    private void move() {
        promise(15, "A MEETING is moved to a PLACE: 1; 0: it is there; else below 0 (it stays)", () -> {
            house(HOUSE);
            due("there", 0, () -> x.move(0, 0, 0));
            due("not counted", 0, () -> x.meeting(0, 4));
            due("no act", 0, () -> x.count(2));
            due("moved", 1, () -> x.move(0, 2, 0));
            due("counted", 1, () -> x.meeting(0, 4));
            due("an act", 1, () -> x.count(2));
            due("there, fixed", 0, () -> x.move(4, 3, 0));
            due("below 0", -12, () -> x.move(2, 2, 0));
            due("it stays", 10, () -> 10 * x.meeting(2, 0) + x.meeting(2, 1));
            due("not counted", 3, () -> x.meeting(2, 4));
            due("no act", 1, () -> x.count(2));
            x.drop(3);
            due("out, and in again", 1, () -> x.move(3, 2, 2));
            due("counted", 1, () -> x.meeting(3, 4));
            house("room 1;meet 0 0 0;meet 0 0 0;");
            due("there, with a clash", 0, () -> x.move(0, 0, 0));
        });
        promise(15, "-64: 30 acts (move, drop, push, follow, done) are done that were not undone", () -> {
            house("hours 2;room 1;meet 0 0 0;");
            x.move(0, 1, 0);
            x.drop(0);
            x.push(0, 0, 0);
            target("0 1 0;");
            x.follow();
            x.done(1, 1);
            due("five of each kind are five acts", 5, () -> x.count(2));
            actsTo30(0, 0, 0, 1, 0);
            due("thirty", 30, () -> x.count(2));
            int hour = 1 - x.meeting(0, 0);
            due("a 31st", -64, () -> x.move(0, hour, 0));
            due("count(2)", 30, () -> x.count(2));
            due("it stays", 1 - hour, () -> x.meeting(0, 0));
            due("there: 0 all the same", 0, () -> x.move(0, 1 - hour, 0));
            x.undo();
            due("29: an act again", 29, () -> x.count(2));
            due("the 30th again", 1, () -> x.move(0, x.meeting(0, 0) == 0 ? 1 : 0, 0));
        });
        promise(15, "else -32: it is FIXED; else its CLASHES there.", () -> {
            house(TO_AND_FRO);
            due("fixed, no clash there", -32, () -> x.move(1, 1, 0));
            due("fixed, ahead of its clashes", -32, () -> x.move(1, 1, 1));
            due("clashes", -8, () -> x.move(0, 1, 1));
            actsTo30(0, 0, 0, 1, 0);
            due("-64 ahead of -32", -64, () -> x.move(1, 1, 1));
            due("-64 ahead of clashes", -64, () -> x.move(0, 1, 1));
            house("hours 2;room 1;person 0 0;person 0 0;meet 0 0 0;meet 1 0 0;who 0 0;who 0 1;who 1 1;may 0 0 0;busy 0 1 1;");
            due("all of them", -31, () -> x.move(0, 1, 0));
            due("too many people", -16, () -> x.drop(1) * x.move(0, 0, 0) + x.drop(0) * x.move(0, 0, 0));
        });
    }

    private void dropAndUndo() {
        promise(16, "A MEETING is OUT (that does not count as moved): 1; 0: it is so; else -64, -32 likewise.", () -> {
            house(TO_AND_FRO);
            due("out", 1, () -> x.drop(0));
            due("not counted", 0, () -> x.meeting(0, 4));
            due("an act", 1, () -> x.count(2));
            due("so already", 0, () -> x.drop(0));
            due("no act", 1, () -> x.count(2));
            due("fixed", -32, () -> x.drop(1));
            x.undo();
            actsTo30(0, 0, 0, 1, 0);
            due("30 acts", -64, () -> x.drop(0));
            due("30 acts, ahead of fixed", -64, () -> x.drop(1));
            x.undo();
            due("the 30th", 1, () -> x.drop(0));
            due("out already, ahead of 30 acts", 0, () -> x.drop(0));
        });
        promise(17, "The latest act that was not undone is undone (PLACES, how often they were moved): how many there are yet", () -> {
            house(HOUSE);
            x.move(0, 2, 0);
            x.drop(3);
            x.push(0, 1, 1);
            due("two yet", 2, () -> x.undo());
            due("PLACE of 0", 20, () -> 10 * x.meeting(0, 0) + x.meeting(0, 1));
            due("PLACE of who was pushed", 10, () -> 10 * x.meeting(2, 0) + x.meeting(2, 1));
            due("times", 103, () -> 100 * x.meeting(0, 4) + x.meeting(2, 4));
            due("one yet", 1, () -> x.undo());
            due("in again", 22, () -> 10 * x.meeting(3, 0) + x.meeting(3, 1));
            target("0 4 2;1 4 2;");
            rule("1=1");
            due("none yet", 0, () -> x.undo());
            due("times as told", 3, () -> 100 * x.meeting(0, 4) + x.meeting(2, 4));
            due("the TARGET is not undone", 2, () -> x.told(5));
            due("nor is the RULE", 1, () -> bit(x.yields(0, 1)));
            house(TO_AND_FRO);
            actsTo30(0, 1, 0, 0, 0);
            for (int i = 29; i >= 0; i--) {
                due("undo of 30", i, () -> x.undo());
            }
            due("all undone", 0, () -> 10 * x.meeting(0, 0) + x.meeting(0, 4));
        });
        promise(17, "-1: there is none.", () -> {
            house(TO_AND_FRO);
            due("none yet", -1, () -> x.undo());
            x.move(0, 0, 0);
            x.move(1, 1, 0);
            due("none that was done", -1, () -> x.undo());
            x.move(0, 1, 0);
            x.undo();
            due("none left", -1, () -> x.undo());
            due("nothing is undone", 0, () -> 10 * x.meeting(0, 0) + x.meeting(0, 4));
            due("count(2)", 0, () -> x.count(2));
        });
    }

    private void holds() {
        promise(18, "A HOLD is let go (for good): 1; 0: it is.", () -> {
            house("hours 2;room 1;meet 0 0 0;hold 1 0 1 1;hold 1 0 1 1;");
            due("let(1)", 1, () -> x.let(1));
            due("let(1) again", 0, () -> x.let(1));
            due("hold(0, 3): not the other one", 1, () -> x.hold(0, 3));
            x.let(0);
            x.move(0, 1, 0);
            x.undo();
            due("for good: undo leaves it", 0, () -> 10 * x.hold(0, 3) + x.hold(1, 3));
            due("no act of its own", -1, () -> x.undo());
            due("let(0) again", 0, () -> x.let(0));
        });
        promise(19, "Of a HOLD: 0 HOUR, 1 ROOM, 2 what is lost by letting it go (P times C), 3 1 it is held, 0 let go, 4 how many "
            + "MEETINGS that are OUT would have no CLASHES there, but 8.", () -> {
                house("hours 10;room 9;room 1;person 0 0;person 0 0;meet 0 0 0;meet 1 0 0;meet 2 0 0;meet 9 0 0;meet 8 0 0;"
                    + "who 0 0;who 0 1;may 2 0 8;who 4 1;hold 9 1 16 99;hold 9 0 0 99;");
                due("HOUR", 9, () -> x.hold(0, 0));
                due("ROOM", 1, () -> x.hold(0, 1));
                due("lost", 1584, () -> x.hold(0, 2));
                due("lost: odds of 0", 0, () -> x.hold(1, 2));
                due("held", 1, () -> x.hold(0, 3));
                due("none is out", 0, () -> x.hold(0, 4));
                x.drop(0);
                x.drop(1);
                x.drop(2);
                // 0 has too many people for room 1, 2 may not be there; room 0 has meeting 3 in it, which is a clash 8
                due("one would", 1, () -> x.hold(0, 4));
                due("two would, but for 8", 2, () -> x.hold(1, 4));
                x.move(4, 9, 1);
                due("4 is not in there: it is held", 8, () -> x.meeting(4, 0));
                x.let(0);
                due("let go", 0, () -> x.hold(0, 3));
                due("as many", 1, () -> x.hold(0, 4));
                x.move(4, 9, 1);
                due("0 would have a clash 4", 1, () -> x.hold(1, 4));
                due("clash 8 does not count", 1, () -> x.hold(0, 4));
                house("hours 3;room 9;" + "meet 0 0 0;".repeat(10) + "hold 2 0 1 1;");
                for (int m = 0; m < 10; m++) {
                    x.drop(m);
                }
                due("all ten", 10, () -> x.hold(0, 4));
            });
        promise(20, "Which HOLD to let go: of those held that with least to lose, of these the first; NONE.", () -> {
            x = new YieldedHours();
            due("no holds", -1, () -> x.least());
            house("room 1;hold 0 0 2 10;hold 0 0 16 99;hold 0 0 4 5;hold 0 0 0 99;");
            due("0 to lose", 3, () -> x.least());
            x.let(3);
            due("the first of two", 0, () -> x.least());
            x.let(0);
            due("the other one", 2, () -> x.least());
            x.let(2);
            due("the most to lose", 1, () -> x.least());
            x.let(1);
            due("none is held", -1, () -> x.least());
        });
    }

    private void fits() {
        promise(21, "FITS: 0 FEWEST others, 1 which (bits), 2 its ROOM, 3 the least COST", () -> {
            house(HOUSE);
            // 2 shares people with both in hour 0: 0 goes to hour 1, 1 to hour 1 in the other room
            int[] due = {2, 3, 0, 30 + 4 + 10 + 3 + 20 + 3};
            for (int i = 0; i < 4; i++) {
                int what = i;
                due("fits(2, 0, " + i + ")", due[i], () -> x.fits(2, 0, what));
            }
            for (int i = 0; i < 4; i++) {
                int what = i;
                due("stays: fits(0, 0, " + i + ")", 0, () -> x.fits(0, 0, what));
            }
            due("nothing was done", 0, () -> x.count(2) + x.meeting(0, 4));
            house("hours 2;room 9;" + "meet 0 0 0;".repeat(10));
            due("ten in one place are too many", -1, () -> x.fits(9, 0, 0));
            for (int m = 0; m < 8; m++) {
                x.drop(m);
            }
            due("the highest bits", 512, () -> x.fits(8, 0, 1));
        });
        promise(21, "NONE: it does not, or is FIXED and not in that HOUR, or is OUT.", () -> {
            house("hours 2;room 9;meet 0 0 0;meet 1 0 0;meet 0 0 0;fixed 1;");
            for (int i = 0; i < 4; i++) {
                int what = i;
                due("does not", -1, () -> x.fits(0, 1, what));
                due("fixed, not in that hour", -1, () -> x.fits(1, 0, what));
            }
            x.drop(2);
            due("fixed, in that hour", 0, () -> x.fits(1, 1, 0));
            due("fixed, not in that hour, which is free", -1, () -> x.drop(0) * x.fits(1, 0, 0));
            for (int i = 0; i < 4; i++) {
                int what = i;
                due("out", -1, () -> x.fits(0, 0, what));
            }
        });
    }

    private void goesAndHours() {
        promise(22, "Where another one that moves, or the MEETING itself (also if it stays), is then by FEWEST: 10 times the ROOM, "
            + "and the HOUR", () -> {
                house("hours 10;room 1;room 1;room 1;meet 9 2 0;meet 0 0 0;hold 9 0 1 1;hold 9 1 1 1;may 0 9 9;may 1 8 9;"
                    + "hold 8 0 1 1;hold 8 1 1 1;");
                due("it stays", 29, () -> x.goes(0, 9, 0));
                // 1 clashes where it is: it has to move whatever 0 does
                due("the other moves", 28, () -> x.goes(0, 9, 1));
                due("by the other: it goes", 28, () -> x.goes(1, 8, 1));
                house("hours 3;room 1;room 1;meet 0 0 0;meet 1 0 40;meet 1 1 1;meet 0 1 1;may 2 0 1;hold 0 0 1 1;");
                due("by FEWEST", 2, () -> x.goes(0, 1, 1));
                due("hour 0, room 0", 0, () -> {
                    house("hours 3;room 1;meet 2 0 0;");
                    return x.goes(0, 0, 0);
                });
            });
        promise(22, "NONE: another one that does not move, or it does not fit.", () -> {
            house("hours 2;room 1;meet 0 0 0;meet 1 0 0;meet 1 0 0;fixed 2;");
            due("it does not fit", -1, () -> x.goes(0, 1, 0));
            due("it does not fit: another one", -1, () -> x.goes(0, 1, 2));
            x.drop(1);
            due("another one that does not move", -1, () -> x.goes(0, 0, 2));
            due("another one that is out", -1, () -> x.goes(0, 0, 1));
            due("one that is out itself", -1, () -> x.goes(1, 0, 1));
            due("fixed, not in that hour", -1, () -> x.goes(2, 0, 2));
        });
        promise(23, "In how many HOURS a MEETING FITS.", () -> {
            house("hours 10;room 1;meet 0 0 0;");
            due("all ten", 10, () -> x.hours(0));
            house("hours 1;room 1;meet 0 0 0;");
            due("one", 1, () -> x.hours(0));
            x.drop(0);
            due("out", 0, () -> x.hours(0));
            house("hours 3;room 1;meet 0 0 0;fixed 0;");
            due("fixed", 1, () -> x.hours(0));
            house("hours 3;room 1;meet 0 0 0;meet 1 0 0;meet 2 0 0;may 0 0 1;may 1 1 1;");
            due("one where it may be, one it can't have", 1, () -> x.hours(0));
            due("as others can't leave", 1, () -> x.hours(1));
        });
    }

    private void swapAndRings() {
        promise(24, "Whether two MEETINGS could change PLACES (a RING of two).", () -> {
            house("hours 4;room 1;meet 0 0 0;meet 1 0 0;meet 2 0 0;meet 3 0 0;may 0 0 1;fixed 3;");
            due("could", 1, () -> bit(x.swap(0, 1)));
            due("the other way round", 1, () -> bit(x.swap(1, 0)));
            due("without 0", 1, () -> bit(x.swap(1, 2)));
            due("one may not", 0, () -> bit(x.swap(0, 2)));
            due("one may not, the other way round", 0, () -> bit(x.swap(2, 0)));
            due("fixed", 0, () -> bit(x.swap(2, 3)));
            due("nothing was done", 0, () -> x.meeting(0, 0) + x.meeting(0, 4));
            x.drop(1);
            due("out", 0, () -> bit(x.swap(0, 1)));
            due("both out", 0, () -> bit(x.drop(2) == 1 && x.swap(1, 2)));
            house("hours 2;room 1;meet 0 0 0;meet 0 0 0;");
            due("in one place", 0, () -> bit(x.swap(0, 1)));
        });
        promise(24, "IllegalArgumentException: one MEETING.", () -> {
            house("hours 2;room 1;meet 0 0 0;meet 1 0 0;fixed 1;");
            wrong("swap(0, 0)", () -> bit(x.swap(0, 0)));
            wrong("swap(1, 1)", () -> bit(x.swap(1, 1)));
            x.drop(0);
            wrong("swap(0, 0), out", () -> bit(x.swap(0, 0)));
        });
        promise(25, "How many RINGS of so many (2 to 4) MEETINGS there are (what 0), the first as digits to the base 10 (1; its least "
            + "MEETING, then the next, ..; NONE).", () -> {
                house("hours 10;room 1;" + "meet 0 0 0;meet 1 0 0;meet 2 0 0;meet 3 0 0;meet 4 0 0;meet 5 0 0;meet 6 0 0;"
                    + "meet 7 0 0;meet 8 0 0;meet 9 0 0;");
                due("rings(2, 0)", 45, () -> x.rings(2, 0));
                due("rings(3, 0)", 240, () -> x.rings(3, 0));
                due("rings(4, 0)", 1260, () -> x.rings(4, 0));
                due("rings(2, 1)", 1, () -> x.rings(2, 1));
                due("rings(3, 1)", 12, () -> x.rings(3, 1));
                due("rings(4, 1)", 123, () -> x.rings(4, 1));
                for (int m = 0; m < 6; m++) {
                    x.drop(m);
                }
                due("the first of the last four", 6789, () -> x.rings(4, 1));
                due("of four, six", 6, () -> x.rings(4, 0));
                x.drop(6);
                due("none: 0", 0, () -> x.rings(4, 0));
                due("none: NONE", -1, () -> x.rings(4, 1));
                for (int many : new int[] {1, 0, -1, 5, Integer.MAX_VALUE, Integer.MIN_VALUE}) {
                    wrong("rings(" + many + ", 0)", () -> x.rings(many, 0));
                }
                x = new YieldedHours();
                due("no meetings: 0", 0, () -> x.rings(2, 0));
                due("no meetings: NONE", -1, () -> x.rings(2, 1));
            });
    }
}

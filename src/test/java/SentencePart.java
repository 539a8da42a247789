/** Some of the tests of sentences, with what they share. */
abstract class SentencePart {
    private final Sentences sentences;
    /** The object that the present test asks. */
    YieldedHours x;

    SentencePart(Sentences sentences) {
        this.sentences = sentences;
    }

    abstract void run();

    void whole(String sentence, Runnable test) {
        sentences.run("What it is", sentence, test);
    }

    void terms(int part, String sentence, Runnable test) {
        sentences.run("Terms " + part, sentence, test);
    }

    void promise(int promise, String sentence, Runnable test) {
        sentences.run("Promise " + promise, sentence, test);
    }

    void due(String call, long want, Checks.Call answer) {
        sentences.checks().due(sentences.naming(call), want, answer);
    }

    void noSuch(String call, Checks.Call answer) {
        sentences.checks().noSuch(sentences.naming(call), answer);
    }

    void wrong(String call, Checks.Call answer) {
        sentences.checks().wrongArgument(sentences.naming(call), answer);
    }

    static int bit(boolean so) {
        return so ? 1 : 0;
    }

    /** A new object with a HOUSE. */
    void house(String text) {
        x = Checks.told(text);
    }

    void fine(String house) {
        YieldedHours y = new YieldedHours();
        due("house(" + house + ") has no fault", 1, () -> bit(Checks.house(y, house) >= 0));
        due("fault() of " + house, -1, () -> y.fault());
    }

    /** A | stands ahead of the byte at which the fault is. */
    void fault(int kind, String marked) {
        YieldedHours y = new YieldedHours();
        due("house(" + marked + ")", kind - 10, () -> Checks.house(y, unmarked(marked)));
        due("fault() of " + marked, marked.indexOf('|'), () -> y.fault());
    }

    void targetFault(int kind, String marked) {
        due("target(" + marked + ")", kind - 10, () -> Checks.target(x, unmarked(marked)));
        due("fault() of " + marked, marked.indexOf('|'), () -> x.fault());
    }

    void ruleFault(int kind, String marked) {
        YieldedHours y = new YieldedHours();
        due("rule(" + marked + ")", kind - 10, () -> Checks.rule(y, unmarked(marked)));
        due("fault() of " + marked, marked.indexOf('|'), () -> y.fault());
    }

    private static String unmarked(String text) {
        return text.replace("|", "");
    }

    void target(String text) {
        if (Checks.target(x, text) < 0) {
            throw new IllegalStateException("a test's target has a fault at " + x.fault() + ": " + text);
        }
    }

    void rule(String text) {
        if (Checks.rule(x, text) < 0) {
            throw new IllegalStateException("a test's rule has a fault at " + x.fault() + ": " + text);
        }
    }

    /** Whether a RULE is so when meeting 1 wants the place of meeting 0. */
    void so(boolean want, String rule) {
        due("rule(" + rule + ")", 1, () -> Checks.rule(x, rule));
        due("yields(0, 1) by " + rule, bit(want), () -> bit(x.yields(0, 1)));
    }

    void feedTimes(int times) {
        for (int i = 0; i < times; i++) {
            x.feed(0x20202020, 0x20202020, 0x20202020, 0x20202020, 0x20202020);
        }
    }

    /** Acts till there are 30, of a meeting that may stand in both places. */
    void actsTo30(int meeting, int hour, int room, int otherHour, int otherRoom) {
        for (int i = x.count(2); i < 30; i++) {
            boolean there = x.meeting(meeting, 0) == hour && x.meeting(meeting, 1) == room;
            int answer = there ? x.move(meeting, otherHour, otherRoom) : x.move(meeting, hour, room);
            if (answer != 1) {
                throw new IllegalStateException("a test could not make an act: " + answer);
            }
        }
    }
}

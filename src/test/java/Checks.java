import java.nio.charset.StandardCharsets;
import java.util.NoSuchElementException;

/** What the tests share: counting wrong answers, and telling texts. */
final class Checks {
    /** A call of the face, whatever it answers. */
    interface Call {
        long run();
    }

    static final long NO_SUCH = Long.MIN_VALUE;
    static final long WRONG_ARGUMENT = Long.MIN_VALUE + 1;

    private int done;
    private int wrong;

    /** The answer, or which exception came instead. Any other exception is let through: it fails the test. */
    static long answer(Call call) {
        try {
            return call.run();
        } catch (NoSuchElementException e) {
            return e.getClass() == NoSuchElementException.class ? NO_SUCH : fail(e);
        } catch (IllegalArgumentException e) {
            return e.getClass() == IllegalArgumentException.class ? WRONG_ARGUMENT : fail(e);
        }
    }

    private static long fail(RuntimeException e) {
        throw new AssertionError(e);
    }

    void due(String what, long want, Call call) {
        same(what, want, answer(call));
    }

    void is(String what, boolean want, boolean got) {
        same(what, want ? 1 : 0, got ? 1 : 0);
    }

    void same(String what, long want, long got) {
        done++;
        if (want != got) {
            wrong++;
            if (wrong <= 40) {
                System.out.println(what + ": " + named(got) + ", due is " + named(want));
            }
        }
    }

    private static String named(long answer) {
        return answer == NO_SUCH ? "NoSuchElementException"
            : answer == WRONG_ARGUMENT ? "IllegalArgumentException" : Long.toString(answer);
    }

    void noSuch(String what, Call call) {
        due(what, NO_SUCH, call);
    }

    void wrongArgument(String what, Call call) {
        due(what, WRONG_ARGUMENT, call);
    }

    int wrongSoFar() {
        return wrong;
    }

    void end() {
        System.out.println(done + " answers looked at, " + wrong + " wrong");
        if (wrong > 0 || done == 0) {
            System.exit(1);
        }
    }

    // ---- texts ----

    static void feed(YieldedHours x, String text) {
        byte[] bytes = text.getBytes(StandardCharsets.ISO_8859_1);
        for (int i = 0; i < bytes.length; i += 20) {
            x.feed(word(bytes, i), word(bytes, i + 4), word(bytes, i + 8), word(bytes, i + 12), word(bytes, i + 16));
        }
    }

    private static int word(byte[] bytes, int at) {
        int word = 0;
        for (int i = at; i < at + 4; i++) {
            word = word << 8 | (i < bytes.length ? bytes[i] & 255 : 0);
        }
        return word;
    }

    static int house(YieldedHours x, String text) {
        feed(x, text);
        return x.house(text.length());
    }

    static int target(YieldedHours x, String text) {
        feed(x, text);
        return x.target(text.length());
    }

    static int rule(YieldedHours x, String text) {
        feed(x, text);
        return x.rule(text.length());
    }

    static YieldedHours told(String house) {
        YieldedHours x = new YieldedHours();
        int meetings = house(x, house);
        if (meetings < 0) {
            throw new AssertionError("a test's house has a fault at " + x.fault() + ": " + house);
        }
        return x;
    }
}

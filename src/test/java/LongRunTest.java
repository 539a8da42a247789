import java.util.Random;

/**
 * Whatever is asked, in whatever state: a call ends, throws nothing but what the document names, and makes hardly any
 * objects; the dearest calls too, 512 times.
 */
public final class LongRunTest {
    private static final int WILD_RUNS = 300;
    private static final int CALLS = 512;
    /** All calls of a run share one room; an object here is some tens of bytes. */
    private static final long MOST_BYTES_A_RUN = 200_000;

    private static final Checks checks = new Checks();

    public static void main(String[] args) {
        for (int seed = 0; seed < WILD_RUNS; seed++) {
            wild(new Random(seed));
        }
        dearest();
        room();
        checks.end();
    }

    private static int number(Random random) {
        int[] edges = {-1, 0, 1, 2, 3, 4, 5, 7, 8, 9, 10, 11, 20, 30, 31, 60, 61, 255, 256, Integer.MAX_VALUE, Integer.MIN_VALUE};
        return random.nextInt(3) == 0 ? edges[random.nextInt(edges.length)] : random.nextInt(6);
    }

    private static void wild(Random random) {
        Texts texts = new Texts(random);
        YieldedHours x = new YieldedHours();
        int refused = 0;
        for (int i = 0; i < CALLS - 40; i++) {
            if (i % 120 == 0) {
                Checks.house(x, texts.house(10, 3, 8, 10));
                Checks.rule(x, texts.rule());
                Checks.target(x, texts.target());
            }
            long answer = Checks.answer(() -> any(x, random));
            refused += answer == Checks.NO_SUCH || answer == Checks.WRONG_ARGUMENT ? 1 : 0;
        }
        checks.same("refusals are counted", refused, x.status(0) + x.status(1));
    }

    private static long any(YieldedHours x, Random random) {
        int a = number(random);
        int b = number(random);
        int c = number(random);
        int d = number(random);
        switch (random.nextInt(50)) {
            case 0: return x.feed(a, b, c, d, random.nextInt());
            case 1: return random.nextInt(8) == 0 ? x.house(a) : 0;
            case 2: return x.target(a);
            case 3: return x.rule(a);
            case 4: return x.fault();
            case 5: return x.told(a);
            case 6: return x.meeting(a, b);
            case 7: return x.person(a, b);
            case 8: return x.at(a, b);
            case 9: return x.where(a, b);
            case 10: return x.clash(a, b, c);
            case 11: return x.clashing();
            case 12: return x.free(a);
            case 13: return x.move(a, b, c);
            case 14: return x.drop(a);
            case 15: return x.undo();
            case 16: return x.let(a);
            case 17: return x.hold(a, b);
            case 18: return x.least();
            case 19: return x.fits(a, b, c);
            case 20: return x.goes(a, b, c);
            case 21: return x.hours(a);
            case 22: return x.swap(a, b) ? 1 : 0;
            case 23: return x.rings(a, b);
            case 24: return x.line(a, b);
            default: return anyMore(x, random, new int[] {a, b, c, d});
        }
    }

    private static long anyMore(YieldedHours x, Random random, int[] n) {
        int a = n[0];
        int b = n[1];
        int c = n[2];
        int d = n[3];
        switch (random.nextInt(26)) {
            case 0: return x.apart();
            case 1: return x.once() ? 1 : 0;
            case 2: return x.order(a);
            case 3: return x.begin();
            case 4: return x.waits(a);
            case 5: return x.knot();
            case 6: return x.news(a, b);
            case 7: return x.latest();
            case 8: return x.follow();
            case 9: return x.pair(a, b);
            case 10: return x.drops();
            case 11: return x.gap(a);
            case 12: return x.together(a, b);
            case 13: return x.fair(a);
            case 14: return x.yields(a, b) ? 1 : 0;
            case 15: return x.pushes(a, b, c, d);
            case 16: return x.pushed(a, b, c, d);
            case 17: return x.push(a, b, c);
            case 18: return x.week(a, b, c);
            case 19: return x.done(a, b);
            case 20: return x.span(a, b, c, d);
            case 21: return x.image();
            case 22: return x.restore();
            case 23: return x.status(a);
            default: return x.count(a);
        }
    }

    private static String crowded() {
        StringBuilder house = new StringBuilder("hours 10;room 9;room 9;room 9;");
        for (int i = 0; i < 8; i++) {
            house.append("person 1 1;");
        }
        for (int i = 0; i < 10; i++) {
            house.append("meet ").append(i).append(" 0 9;");
        }
        for (int i = 0; i < 10; i++) {
            house.append("who ").append(i).append(" ").append(i % 8).append(";");
            house.append("who ").append(i).append(" ").append((i + 3) % 8).append(";");
        }
        return house.toString();
    }

    private static void dearest() {
        for (int call = 0; call < 6; call++) {
            YieldedHours x = Checks.told(crowded());
            Checks.rule(x, "1=1 and not [2=3 or cost*times+size*number<mycost-99*99] or step=hour");
            Checks.target(x, "0 1 0;1 2 0;2 3 0;3 4 0;4 5 0;5 6 0;6 7 0;7 8 0;8 9 0;9 9 1;");
            long first = dear(x, call);
            for (int i = 1; i < CALLS - 60; i++) {
                checks.same("dear call " + call, first, dear(x, call));
            }
        }
    }

    private static long dear(YieldedHours x, int call) {
        switch (call) {
            case 0: return x.hours(0);
            case 1: return x.rings(4, 0);
            case 2: return x.order(1);
            case 3: return x.span(7, 20, 60, 2);
            case 4: return x.pushes(0, 1, 0, 0);
            default: return x.fits(3, 7, 3);
        }
    }

    private static void room() {
        com.sun.management.ThreadMXBean threads =
            (com.sun.management.ThreadMXBean) java.lang.management.ManagementFactory.getThreadMXBean();
        long thread = Thread.currentThread().getId();
        YieldedHours x = Checks.told(crowded());
        for (int call = 0; call < 6; call++) {
            dear(x, call);
        }
        long before = threads.getThreadAllocatedBytes(thread);
        YieldedHours another = new YieldedHours();
        for (int i = 0; i < CALLS / 10; i++) {
            for (int call = 0; call < 6; call++) {
                dear(x, call);
            }
            x.image();
            x.done(i, 60);
            x.push(0, 1, 0);
            x.restore();
        }
        long used = threads.getThreadAllocatedBytes(thread) - before;
        checks.is("room for a run: " + used + " bytes", true,
            used < MOST_BYTES_A_RUN && another.told(0) == 8);
    }
}

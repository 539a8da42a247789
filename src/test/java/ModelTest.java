import java.util.List;
import java.util.Random;

/** Runs by chance (from fixed seeds) on the class and on the Model, answer by answer. */
public final class ModelTest {
    private static final int SMALL_RUNS = 250;
    private static final int LARGE_RUNS = 250;
    private static final int TEXT_RUNS = 400;

    private final Checks checks = new Checks();
    private Random random;
    private Texts texts;
    private YieldedHours x;
    private Model model;
    private boolean small;
    private String run;

    public static void main(String[] args) {
        ModelTest test = new ModelTest();
        int wrong = 0;
        for (int i = 0; i < SMALL_RUNS + LARGE_RUNS && wrong < 10; i++) {
            test.runOnce(i, i < SMALL_RUNS);
            wrong = test.checks.wrongSoFar();
        }
        for (int i = 0; i < TEXT_RUNS; i++) {
            test.readOnly(i);
        }
        test.checks.end();
    }

    private void begin(int seed, String kind) {
        random = new Random(seed);
        texts = new Texts(random);
        x = new YieldedHours();
        model = new Model();
        run = kind + " run " + seed;
    }

    private void due(String call, long want, Checks.Call got) {
        checks.due(run + ", " + call, want, got);
    }

    private int upTo(int most) {
        return texts.upTo(most);
    }

    private void tellHouse(String text) {
        Checks.feed(x, text);
        due("house " + text, model.house(text), () -> x.house(text.length()));
        due("fault of " + text, model.faultAt, () -> x.fault());
    }

    private void tellTarget(String text) {
        Checks.feed(x, text);
        due("target " + text, model.target(text), () -> x.target(text.length()));
        due("fault of " + text, model.faultAt, () -> x.fault());
    }

    private void tellRule(String text) {
        Checks.feed(x, text);
        due("rule " + text, model.rule(text), () -> x.rule(text.length()));
        due("fault of " + text, model.faultAt, () -> x.fault());
    }

    private void readOnly(int seed) {
        begin(seed, "text");
        for (int i = 0; i < 10; i++) {
            String house = texts.house(10, 3, 8, 10);
            tellHouse(upTo(2) == 0 ? house : texts.spoilt(house, 600));
            texts.meetings = model.meets.size();
            texts.hours = model.hours;
            texts.rooms = Math.max(1, model.rooms.size());
            String target = texts.target();
            tellTarget(upTo(2) == 0 ? target : texts.spoilt(target, 120));
            String rule = texts.rule();
            tellRule(upTo(2) == 0 ? rule : texts.spoilt(rule, 150));
        }
    }

    private void runOnce(int seed, boolean small) {
        begin(seed, small ? "small" : "large");
        this.small = small;
        tellAll();
        for (int i = 0; i < 45; i++) {
            if (upTo(40) == 0) {
                tellAll();
            }
            change();
            look();
        }
        lookAtAll();
    }

    private void tellAll() {
        tellHouse(small ? texts.house(4, 2, 4, 6) : texts.house(10, 3, 8, 10));
        if (upTo(4) > 0) {
            tellRule(texts.rule());
        }
        tellTarget(texts.target());
        lookAtAll();
    }

    private Model.Spot anySpot() {
        return new Model.Spot(random.nextInt(texts.hours), random.nextInt(texts.rooms));
    }

    private void change() {
        int kind = upTo(16);
        if (kind == 0) {
            tellTarget(texts.target());
        } else if (kind == 1) {
            due("undo", model.undo(), () -> x.undo());
        } else if (kind == 2) {
            due("image", model.image(), () -> x.image());
        } else if (kind == 3) {
            due("restore", model.restore(), () -> x.restore());
        } else if (kind == 4) {
            due("follow", model.follow(), () -> x.follow());
        } else if (kind == 5 && upTo(2) == 0) {
            tellRule(texts.rule());
        } else if (kind == 6 && texts.holds > 0) {
            int hold = random.nextInt(texts.holds);
            due("let", model.gone.add(hold) ? 1 : 0, () -> x.let(hold));
        } else if (kind == 7) {
            int seed = random.nextInt();
            int n = 1 + upTo(12);
            int want = -64;
            if (!model.full()) {
                model.week(seed, n);
                want = model.weekMoved;
                model.act(model.weekPlan, model.weekTimes);
            }
            due("done", want, () -> x.done(seed, n));
        } else if (texts.meetings > 0) {
            changeOne(kind, random.nextInt(texts.meetings), anySpot());
        }
    }

    private void changeOne(int kind, int m, Model.Spot s) {
        if (kind <= 9) {
            due("drop " + m, model.drop(m), () -> x.drop(m));
        } else if (kind <= 12) {
            int want = -1;
            if (model.full()) {
                want = -64;
            } else if (model.push(m, s)) {
                want = model.pushSteps;
                model.act(model.pushedPlan, model.movedTimes(model.pushedPlan));
            }
            due("push " + m + s, want, () -> x.push(m, s.hour(), s.room()));
        } else {
            due("move " + m + s, model.move(m, s), () -> x.move(m, s.hour(), s.room()));
        }
    }

    private void lookAtAll() {
        for (int m = 0; m < texts.meetings; m++) {
            lookAtMeeting(m);
        }
        for (int p = 0; p < texts.people; p++) {
            lookAtPerson(p);
        }
        lookAtTarget();
        lookAtRest();
    }

    private void look() {
        for (int i = 0; i < 3 && texts.meetings > 0; i++) {
            int m = random.nextInt(texts.meetings);
            switch (upTo(3)) {
                case 0 -> lookAtMeeting(m);
                case 1 -> lookAtFits(m);
                case 2 -> lookAtPush(m);
                default -> lookAtTarget();
            }
        }
        if (upTo(2) == 0) {
            lookAtRest();
        }
        if (texts.people > 0) {
            lookAtPerson(random.nextInt(texts.people));
        }
    }

    private int bits(Iterable<Integer> set) {
        int bits = 0;
        for (int i : set) {
            bits |= 1 << i;
        }
        return bits;
    }

    private void lookAtMeeting(int m) {
        Model.Meet meet = model.meets.get(m);
        Model.Spot s = model.plan.get(m);
        due("meeting 0", s == null ? -1 : s.hour(), () -> x.meeting(m, 0));
        due("meeting 1", s == null ? -1 : s.room(), () -> x.meeting(m, 1));
        due("meeting 2", meet.weight, () -> x.meeting(m, 2));
        due("meeting 3", meet.fixed ? 1 : 0, () -> x.meeting(m, 3));
        due("meeting 4", model.times.get(m), () -> x.meeting(m, 4));
        due("meeting 5", bits(meet.who), () -> x.meeting(m, 5));
        due("meeting 6", meet.may.isEmpty() ? (1 << model.hours) - 1 : bits(meet.may), () -> x.meeting(m, 6));
        int free = 0;
        for (Model.Spot t : model.spots()) {
            int c = model.clash(model.plan, m, t);
            free += c == 0 ? 1 : 0;
            due("clash " + m + t, c, () -> x.clash(m, t.hour(), t.room()));
        }
        due("free " + m, free, () -> x.free(m));
    }

    private void lookAtPerson(int p) {
        Model.Person person = model.people.get(p);
        due("person 0", person.ask, () -> x.person(p, 0));
        due("person 1", person.delay, () -> x.person(p, 1));
        due("person 2", bits(person.busy), () -> x.person(p, 2));
        int in = 0;
        for (int m = 0; m < texts.meetings; m++) {
            in += model.plan.get(m) != null && model.meets.get(m).who.contains(p) ? 1 : 0;
        }
        due("person 3", in, () -> x.person(p, 3));
        due("person 4", model.bears(model.times, p), () -> x.person(p, 4));
        for (int h = 0; h < model.hours; h++) {
            int hour = h;
            int where = -1;
            for (int m = texts.meetings - 1; m >= 0; m--) {
                Model.Spot s = model.plan.get(m);
                where = s != null && s.hour() == h && model.meets.get(m).who.contains(p) ? m : where;
            }
            due("where " + p + " " + h, where, () -> x.where(p, hour));
        }
        for (int q = 0; q < texts.people; q++) {
            int other = q;
            if (q != p) {
                due("pair " + p + q, model.pair(p, q, 0), () -> x.pair(p, other));
            }
        }
    }

    private void lookAtFits(int m) {
        if (!small) {
            return;
        }
        int n = 0;
        for (int h = 0; h < model.hours; h++) {
            int hour = h;
            int[] want = model.fits(m, h);
            n += want == null ? 0 : 1;
            String call = "fits " + m + " " + h;
            due(call + " 0", want == null ? -1 : want[0], () -> x.fits(m, hour, 0));
            due(call + " 1", want == null ? -1 : want[1], () -> x.fits(m, hour, 1));
            due(call + " 2", want == null ? -1 : want[3 + m] / 10, () -> x.fits(m, hour, 2));
            due(call + " 3", want == null ? -1 : want[2], () -> x.fits(m, hour, 3));
            for (int o = 0; o < texts.meetings; o++) {
                int other = o;
                due("goes " + m + h + o, want == null ? -1 : want[3 + o], () -> x.goes(m, hour, other));
            }
        }
        due("hours " + m, n, () -> x.hours(m));
    }

    private void lookAtPush(int m) {
        Model.Spot s = anySpot();
        boolean can = model.push(m, s);
        String call = "push " + m + s;
        due(call + " steps", can ? model.pushSteps : -1, () -> x.pushes(m, s.hour(), s.room(), 0));
        int elsewhere = can ? model.elsewhere(model.pushedPlan) : 0;
        due(call + " many", can ? Integer.bitCount(elsewhere) : -1, () -> x.pushes(m, s.hour(), s.room(), 1));
        due(call + " out", can ? model.newlyOut(model.pushedPlan) : -1, () -> x.pushes(m, s.hour(), s.room(), 2));
        for (int o = 0; o < texts.meetings; o++) {
            int other = o;
            int want = can ? Model.tenfold(model.pushedPlan.get(o)) : -1;
            due(call + " of " + o, want, () -> x.pushed(m, s.hour(), s.room(), other));
            if (o != m) {
                Model.Spot t = model.plan.get(o);
                long so = t == null ? Checks.WRONG_ARGUMENT : model.ruleIsSo(o, m, t, 0) ? 1 : 0;
                due("yields " + o + m, so, () -> x.yields(other, m) ? 1 : 0);
                boolean ring = model.isRing(o < m ? List.of(o, m) : List.of(m, o));
                due("swap " + o + m, ring ? 1 : 0, () -> x.swap(other, m) ? 1 : 0);
            }
        }
    }

    private void lookAtTarget() {
        due("apart", model.apart(), () -> x.apart());
        due("once", model.lawful(model.goal()) ? 1 : 0, () -> x.once() ? 1 : 0);
        long order = model.order();
        due("order 0", order == -1 ? -1 : Integer.bitCount(model.apart()), () -> x.order(0));
        due("order 1", order, () -> x.order(1));
        due("begin", model.begin(), () -> x.begin());
        due("knot", model.knot(), () -> x.knot());
        due("latest", model.latest(), () -> x.latest());
        for (int m = 0; m < texts.meetings; m++) {
            int meeting = m;
            due("waits " + m, model.waits(m), () -> x.waits(meeting));
        }
        for (int h = 0; h < model.hours; h++) {
            int hour = h;
            due("news 0", Integer.bitCount(model.news(h)), () -> x.news(hour, 0));
            due("news 1", model.news(h), () -> x.news(hour, 1));
        }
        due("told 5", model.lines.size(), () -> x.told(5));
        for (int i = 0; i < model.lines.size(); i++) {
            int at = i;
            due("line 0", model.lines.get(i).meeting(), () -> x.line(at, 0));
            due("line 1", model.lines.get(i).spot().hour(), () -> x.line(at, 1));
            due("line 2", model.lines.get(i).spot().room(), () -> x.line(at, 2));
        }
    }

    private void lookAtRest() {
        int clashing = 0;
        int out = 0;
        for (int m = 0; m < texts.meetings; m++) {
            Model.Spot s = model.plan.get(m);
            clashing |= s != null && model.clash(model.plan, m, s) != 0 ? 1 << m : 0;
            out += s == null ? 1 : 0;
        }
        due("clashing", clashing, () -> x.clashing());
        due("told 6", out, () -> x.told(6));
        due("drops", model.drops(), () -> x.drops());
        due("fair 0", model.fair(0), () -> x.fair(0));
        due("fair 1", model.fair(1), () -> x.fair(1));
        int who = upTo((1 << texts.people) - 1);
        int many = 1 + upTo(9);
        due("gap " + who, model.gap(who), () -> x.gap(who));
        due("together " + who + " " + many, model.together(who, many), () -> x.together(who, many));
        due("least", model.least(), () -> x.least());
        for (int i = 0; i < texts.holds; i++) {
            int hold = i;
            due("hold 2", model.loss(i), () -> x.hold(hold, 2));
            due("hold 3", model.gone.contains(i) ? 0 : 1, () -> x.hold(hold, 3));
            due("hold 4", model.wouldTake(i), () -> x.hold(hold, 4));
        }
        for (int many2 = 2; many2 <= 4; many2++) {
            int length = many2;
            List<Integer> rings = model.rings(length);
            due("rings " + length, rings.size(), () -> x.rings(length, 0));
            due("first ring " + length, rings.isEmpty() ? -1 : rings.get(0), () -> x.rings(length, 1));
        }
        lookAtWeeks();
        lookAtPlaces();
        due("images", model.images.size(), () -> x.count(0));
        due("acts", model.acts.size(), () -> x.count(2));
    }

    private void lookAtPlaces() {
        for (Model.Spot s : model.spots()) {
            int at = -1;
            for (int m = texts.meetings - 1; m >= 0; m--) {
                at = s.equals(model.plan.get(m)) ? m : at;
            }
            due("at " + s, at, () -> x.at(s.hour(), s.room()));
        }
    }

    private void lookAtWeeks() {
        int seed = random.nextInt();
        int n = 1 + upTo(59);
        model.week(seed, n);
        due("week 0", model.weekMoved, () -> x.week(seed, n, 0));
        due("week 1", model.weekRow, () -> x.week(seed, n, 1));
        due("week 2", model.weekBorne(), () -> x.week(seed, n, 2));
        int many = 1 + upTo(6);
        int first = Integer.MAX_VALUE - 2;
        int fewest = 60;
        int most = 0;
        int all = 0;
        for (int i = 0; i < many; i++) {
            model.week(first + i, n);
            fewest = Math.min(fewest, model.weekMoved);
            most = Math.max(most, model.weekMoved);
            all += model.weekMoved;
        }
        due("span 0", fewest, () -> x.span(first, many, n, 0));
        due("span 1", most, () -> x.span(first, many, n, 1));
        due("span 2", all, () -> x.span(first, many, n, 2));
    }
}

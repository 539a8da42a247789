import java.math.BigInteger;
import java.util.ArrayDeque;
import java.util.ArrayList;
import java.util.Deque;
import java.util.HashSet;
import java.util.List;
import java.util.Set;
import java.util.TreeSet;
import java.util.regex.Matcher;
import java.util.regex.Pattern;

/**
 * The document once more, by trying everything out: slow, and with nothing of the class in it, so that both can be
 * held against each other. It does not look at the arguments: the callers give it such as are allowed.
 */
final class Model {
    static final int NONE = -1;

    record Token(String text, int at) {
        boolean isNumber() {
            return !text.isEmpty() && Character.isDigit(text.charAt(0));
        }
    }

    @SuppressWarnings("serial")
    static final class Fault extends Exception {
        final int kind;
        final int at;

        Fault(int kind, int at) {
            this.kind = kind;
            this.at = at;
        }
    }

    record Spot(int hour, int room) {
    }

    static final class Meet {
        Spot first;
        int weight;
        int firstTimes;
        boolean fixed;
        final Set<Integer> who = new TreeSet<>();
        final Set<Integer> may = new TreeSet<>();
    }

    static final class Person {
        int ask;
        int delay;
        final Set<Integer> busy = new TreeSet<>();
    }

    record Hold(Spot spot, int odds, int lost) {
    }

    record Line(int meeting, Spot spot) {
    }

    record Act(List<Spot> plan, List<Integer> times) {
    }

    record Image(List<Spot> plan, List<Integer> times, Set<Integer> gone, List<Line> lines, List<Act> acts) {
    }

    int hours = 8;
    List<Integer> rooms = new ArrayList<>();
    List<Person> people = new ArrayList<>();
    List<Meet> meets = new ArrayList<>();
    List<Hold> holds = new ArrayList<>();
    List<Spot> plan = new ArrayList<>();
    List<Integer> times = new ArrayList<>();
    Set<Integer> gone = new HashSet<>();
    List<Line> lines = new ArrayList<>();
    List<Act> acts = new ArrayList<>();
    Deque<Image> images = new ArrayDeque<>();
    List<Token> rule;
    int faultAt = NONE;

    // ---- reading ----

    private List<Token> tokens;
    private int at;

    private void cut(String text) {
        tokens = new ArrayList<>();
        Matcher m = Pattern.compile("[0-9]+|[a-z]+|[^ ]", Pattern.DOTALL).matcher(text);
        while (m.find()) {
            tokens.add(new Token(m.group(), m.start()));
        }
        tokens.add(new Token("", text.length()));
        at = 0;
    }

    private Token here() {
        return tokens.get(at);
    }

    private int number(int low, int high) throws Fault {
        Token t = here();
        if (!t.isNumber()) {
            throw new Fault(1, t.at());
        }
        BigInteger v = new BigInteger(t.text());
        if (v.compareTo(BigInteger.valueOf(low)) < 0 || v.compareTo(BigInteger.valueOf(high)) > 0) {
            throw new Fault(2, t.at());
        }
        at++;
        return v.intValue();
    }

    private void sign(String sign) throws Fault {
        if (!here().text().equals(sign)) {
            throw new Fault(1, here().at());
        }
        at++;
    }

    private int faulty(Fault f) {
        faultAt = f.at;
        return f.kind - 10;
    }

    int house(String text) {
        Model fresh = new Model();
        fresh.cut(text);
        try {
            int clauses = 0;
            while (!fresh.here().text().isEmpty()) {
                fresh.clause(clauses++);
            }
        } catch (Fault f) {
            return faulty(f);
        }
        hours = fresh.hours;
        rooms = fresh.rooms;
        people = fresh.people;
        meets = fresh.meets;
        holds = fresh.holds;
        plan = new ArrayList<>();
        times = new ArrayList<>();
        for (Meet m : meets) {
            plan.add(m.first);
            times.add(m.firstTimes);
        }
        gone = new HashSet<>();
        lines = new ArrayList<>();
        acts = new ArrayList<>();
        images.clear();
        rule = null;
        faultAt = NONE;
        return meets.size();
    }

    private void clause(int before) throws Fault {
        Token word = here();
        Set<String> words = Set.of("hours", "room", "person", "busy", "meet", "who", "may", "fixed", "moved", "hold");
        if (!words.contains(word.text())) {
            throw new Fault(1, word.at());
        }
        boolean many = before >= 60
            || word.text().equals("room") && rooms.size() == 3
            || word.text().equals("person") && people.size() == 8
            || word.text().equals("meet") && meets.size() == 10
            || word.text().equals("hold") && holds.size() == 4;
        if (many) {
            throw new Fault(3, word.at());
        }
        if (word.text().equals("hours") && before > 0) {
            throw new Fault(4, word.at());
        }
        at++;
        switch (word.text()) {
            case "hours" -> hours = number(1, 10);
            case "room" -> rooms.add(number(0, 20));
            case "person" -> {
                Person p = new Person();
                p.ask = number(0, 9);
                p.delay = number(0, 9);
                people.add(p);
            }
            case "busy" -> range(people.get(number(0, people.size() - 1)).busy);
            case "meet" -> {
                Meet m = new Meet();
                m.first = new Spot(number(0, hours - 1), number(0, rooms.size() - 1));
                m.weight = number(0, 99);
                meets.add(m);
            }
            case "who" -> {
                int m = number(0, meets.size() - 1);
                meets.get(m).who.add(number(0, people.size() - 1));
            }
            case "may" -> range(meets.get(number(0, meets.size() - 1)).may);
            case "fixed" -> meets.get(number(0, meets.size() - 1)).fixed = true;
            case "moved" -> {
                int m = number(0, meets.size() - 1);
                meets.get(m).firstTimes = number(0, 99);
            }
            default -> {
                Spot spot = new Spot(number(0, hours - 1), number(0, rooms.size() - 1));
                holds.add(new Hold(spot, number(0, 16), number(0, 99)));
            }
        }
        sign(";");
    }

    private void range(Set<Integer> into) throws Fault {
        int from = number(0, hours - 1);
        int to = number(from, hours - 1);
        for (int h = from; h <= to; h++) {
            into.add(h);
        }
    }

    int target(String text) {
        cut(text);
        List<Line> fresh = new ArrayList<>();
        try {
            while (!here().text().isEmpty()) {
                Token first = here();
                int m = number(0, meets.size() - 1);
                for (Line l : fresh) {
                    if (l.meeting() == m) {
                        throw new Fault(2, first.at());
                    }
                }
                fresh.add(new Line(m, new Spot(number(0, hours - 1), number(0, rooms.size() - 1))));
                sign(";");
            }
        } catch (Fault f) {
            return faulty(f);
        }
        lines = fresh;
        faultAt = NONE;
        return lines.size();
    }

    int rule(String text) {
        cut(text);
        List<Token> fresh = tokens;
        env = null;
        try {
            any(0);
            if (!here().text().isEmpty()) {
                throw new Fault(1, here().at());
            }
        } catch (Fault f) {
            return faulty(f);
        }
        rule = fresh;
        faultAt = NONE;
        return 1;
    }

    /** The names in a RULE and what they are worth, in pairs; null while it is only read. */
    private List<Object> env;
    private static final List<String> NAMES = List.of("cost", "times", "size", "number", "mycost", "mytimes",
        "mysize", "mynumber", "hour", "room", "step");

    private boolean any(int open) throws Fault {
        boolean so = all(open);
        while (here().text().equals("or")) {
            at++;
            so = all(open) | so;
        }
        return so;
    }

    private boolean all(int open) throws Fault {
        boolean so = one(open);
        while (here().text().equals("and")) {
            at++;
            so = one(open) & so;
        }
        return so;
    }

    private void openOne(int open) throws Fault {
        if (open == 6) {
            throw new Fault(3, here().at());
        }
        at++;
    }

    private boolean one(int open) throws Fault {
        if (here().text().equals("not")) {
            openOne(open);
            return !one(open + 1);
        }
        if (here().text().equals("[")) {
            openOne(open);
            boolean so = any(open + 1);
            sign("]");
            return so;
        }
        int left = sum(open);
        String s = here().text();
        if (!s.equals("<") && !s.equals(">") && !s.equals("=")) {
            throw new Fault(1, here().at());
        }
        at++;
        int right = sum(open);
        return s.equals("<") ? left < right : s.equals(">") ? left > right : left == right;
    }

    private int sum(int open) throws Fault {
        int v = product(open);
        while (here().text().equals("+") || here().text().equals("-")) {
            boolean plus = here().text().equals("+");
            at++;
            int w = product(open);
            v = plus ? v + w : v - w;
        }
        return v;
    }

    private int product(int open) throws Fault {
        int v = unit(open);
        while (here().text().equals("*")) {
            at++;
            v *= unit(open);
        }
        return v;
    }

    private int unit(int open) throws Fault {
        Token t = here();
        if (NAMES.contains(t.text())) {
            at++;
            return env == null ? 0 : (Integer) env.get(env.indexOf(t.text()) + 1);
        }
        if (t.text().equals("(")) {
            openOne(open);
            int v = sum(open + 1);
            sign(")");
            return v;
        }
        return number(0, 99);
    }

    boolean ruleIsSo(int has, int wants, Spot spot, int step) {
        if (rule == null) {
            return false;
        }
        env = new ArrayList<>(List.of("cost", meets.get(has).weight, "times", times.get(has),
            "size", meets.get(has).who.size(), "number", has,
            "mycost", meets.get(wants).weight, "mytimes", times.get(wants),
            "mysize", meets.get(wants).who.size()));
        env.addAll(List.of("mynumber", wants, "hour", spot.hour(), "room", spot.room(), "step", step));
        tokens = rule;
        at = 0;
        try {
            return any(0);
        } catch (Fault f) {
            throw new AssertionError(f);
        }
    }

    // ---- clashes ----

    boolean share(int m, int o) {
        return meets.get(m).who.stream().anyMatch(meets.get(o).who::contains);
    }

    boolean held(Spot s) {
        for (int i = 0; i < holds.size(); i++) {
            if (!gone.contains(i) && holds.get(i).spot().equals(s)) {
                return true;
            }
        }
        return false;
    }

    int clash(List<Spot> plan, int m, Spot s) {
        Meet me = meets.get(m);
        int bits = 0;
        if (!me.may.isEmpty() && !me.may.contains(s.hour())) {
            bits |= 1;
        }
        for (int p : me.who) {
            if (people.get(p).busy.contains(s.hour())) {
                bits |= 2;
            }
        }
        for (int o = 0; o < meets.size(); o++) {
            if (o != m && plan.get(o) != null && plan.get(o).hour() == s.hour()) {
                if (share(m, o)) {
                    bits |= 4;
                }
                if (plan.get(o).room() == s.room()) {
                    bits |= 8;
                }
            }
        }
        if (held(s)) {
            bits |= 8;
        }
        if (rooms.get(s.room()) < me.who.size()) {
            bits |= 16;
        }
        return bits;
    }

    boolean lawful(List<Spot> plan) {
        for (int m = 0; m < meets.size(); m++) {
            if (plan.get(m) != null && clash(plan, m, plan.get(m)) != 0) {
                return false;
            }
        }
        return true;
    }

    List<Spot> spots() {
        List<Spot> all = new ArrayList<>();
        for (int h = 0; h < hours; h++) {
            for (int r = 0; r < rooms.size(); r++) {
                all.add(new Spot(h, r));
            }
        }
        return all;
    }

    static int tenfold(Spot s) {
        return s == null ? NONE : 10 * s.room() + s.hour();
    }

    // ---- acts ----

    boolean full() {
        return acts.size() == 30;
    }

    void act(List<Spot> after, List<Integer> timesAfter) {
        acts.add(new Act(plan, times));
        plan = after;
        times = timesAfter;
    }

    List<Integer> movedTimes(List<Spot> after) {
        List<Integer> t = new ArrayList<>(times);
        for (int m = 0; m < meets.size(); m++) {
            if (after.get(m) == null ? plan.get(m) != null : !after.get(m).equals(plan.get(m))) {
                t.set(m, t.get(m) + 1);
            }
        }
        return t;
    }

    List<Spot> with(List<Spot> plan, int m, Spot s) {
        List<Spot> next = new ArrayList<>(plan);
        next.set(m, s);
        return next;
    }

    int move(int m, Spot s) {
        if (s.equals(plan.get(m))) {
            return 0;
        }
        if (full()) {
            return -64;
        }
        if (meets.get(m).fixed) {
            return -32;
        }
        int c = clash(plan, m, s);
        if (c == 0) {
            List<Spot> next = with(plan, m, s);
            act(next, movedTimes(next));
            return 1;
        }
        return -c;
    }

    int drop(int m) {
        if (plan.get(m) == null) {
            return 0;
        }
        if (full()) {
            return -64;
        }
        if (meets.get(m).fixed) {
            return -32;
        }
        act(with(plan, m, null), times);
        return 1;
    }

    int undo() {
        if (acts.isEmpty()) {
            return -1;
        }
        Act a = acts.remove(acts.size() - 1);
        plan = a.plan();
        times = a.times();
        return acts.size();
    }

    int image() {
        if (images.size() == 3) {
            return -1;
        }
        images.push(new Image(plan, times, new HashSet<>(gone), lines, new ArrayList<>(acts)));
        return images.size();
    }

    int restore() {
        if (images.isEmpty()) {
            return -1;
        }
        Image i = images.pop();
        plan = i.plan();
        times = i.times();
        gone = i.gone();
        lines = i.lines();
        acts = i.acts();
        return images.size();
    }

    // ---- holds ----

    int least() {
        int best = NONE;
        for (int i = 0; i < holds.size(); i++) {
            if (!gone.contains(i) && (best == NONE || loss(i) < loss(best))) {
                best = i;
            }
        }
        return best;
    }

    int loss(int hold) {
        return holds.get(hold).odds() * holds.get(hold).lost();
    }

    int wouldTake(int hold) {
        int n = 0;
        for (int m = 0; m < meets.size(); m++) {
            if (plan.get(m) == null && (clash(plan, m, holds.get(hold).spot()) | 8) == 8) {
                n++;
            }
        }
        return n;
    }

    // ---- fits ----

    /** FEWEST, which, the cost at least, and then where each is that moves and the one itself; null if it does not fit. */
    int[] fits(int m, int hour) {
        if (plan.get(m) == null || meets.get(m).fixed && plan.get(m).hour() != hour) {
            return null;
        }
        bestPlan = null;
        bestSet = 0;
        bestCost = Integer.MAX_VALUE;
        for (int size = 0; size <= 3; size++) {
            for (int set = 0; set < 1 << meets.size(); set++) {
                if (Integer.bitCount(set) == size && (set >> m & 1) == 0 && allMovable(set)) {
                    for (int room = 0; room < rooms.size(); room++) {
                        Spot s = new Spot(hour, room);
                        if (!meets.get(m).fixed || s.equals(plan.get(m))) {
                            tryAll(with(plan, m, s), set, 0, m);
                        }
                    }
                }
            }
        }
        if (bestPlan == null) {
            return null;
        }
        int[] answer = new int[3 + meets.size()];
        answer[0] = Integer.bitCount(bestSet);
        answer[1] = bestSet;
        answer[2] = bestCost;
        for (int o = 0; o < meets.size(); o++) {
            answer[3 + o] = o == m || (bestSet >> o & 1) != 0 ? tenfold(bestPlan.get(o)) : NONE;
        }
        return answer;
    }

    private List<Spot> bestPlan;
    private int bestSet;
    private int bestCost;

    private boolean allMovable(int set) {
        for (int o = 0; o < meets.size(); o++) {
            if ((set >> o & 1) != 0 && (meets.get(o).fixed || plan.get(o) == null)) {
                return false;
            }
        }
        return true;
    }

    private void tryAll(List<Spot> made, int set, int from, int m) {
        for (int o = from; o < meets.size(); o++) {
            if ((set >> o & 1) != 0) {
                for (Spot s : spots()) {
                    if (!s.equals(plan.get(o))) {
                        tryAll(with(made, o, s), set, o + 1, m);
                    }
                }
                return;
            }
        }
        if (lawful(made)) {
            if (bestPlan == null) {
                bestPlan = made;
                bestSet = set;
            }
            int cost = 0;
            for (int o = 0; o < meets.size(); o++) {
                if (plan.get(o) != null && !plan.get(o).equals(made.get(o))) {
                    cost += meets.get(o).weight;
                    for (int p : meets.get(o).who) {
                        cost += people.get(p).ask;
                    }
                }
            }
            bestCost = Math.min(bestCost, cost);
        }
    }

    /** All rings of so many, each as its digits. */
    List<Integer> rings(int many) {
        List<Integer> all = new ArrayList<>();
        int top = (int) Math.round(Math.pow(10, many));
        for (int digits = 0; digits < top; digits++) {
            List<Integer> ring = new ArrayList<>();
            for (int rest = digits, i = 0; i < many; i++, rest /= 10) {
                ring.add(0, rest % 10);
            }
            if (isRing(ring)) {
                all.add(digits);
            }
        }
        return all;
    }

    boolean isRing(List<Integer> ring) {
        if (new HashSet<>(ring).size() < ring.size()) {
            return false;
        }
        List<Spot> made = new ArrayList<>(plan);
        for (int i = 0; i < ring.size(); i++) {
            int m = ring.get(i);
            if (m >= meets.size() || m < ring.get(0) || meets.get(m).fixed || plan.get(m) == null) {
                return false;
            }
        }
        for (int i = 0; i < ring.size(); i++) {
            made.set(ring.get(i), plan.get(ring.get((i + 1) % ring.size())));
        }
        return lawful(made);
    }

    // ---- the target ----

    List<Spot> goal() {
        List<Spot> goal = new ArrayList<>(plan);
        for (Line l : lines) {
            goal.set(l.meeting(), l.spot());
        }
        return goal;
    }

    int apart() {
        int bits = 0;
        for (Line l : lines) {
            if (!l.spot().equals(plan.get(l.meeting()))) {
                bits |= 1 << l.meeting();
            }
        }
        return bits;
    }

    boolean fixedAmong(int bits) {
        for (int m = 0; m < meets.size(); m++) {
            if ((bits >> m & 1) != 0 && meets.get(m).fixed) {
                return true;
            }
        }
        return false;
    }

    long order() {
        return fixedAmong(apart()) ? NONE : orderFrom(plan, apart(), 0);
    }

    private long orderFrom(List<Spot> made, int left, long digits) {
        if (left == 0) {
            return digits;
        }
        for (int m = 0; m < meets.size(); m++) {
            if ((left >> m & 1) != 0) {
                List<Spot> next = with(made, m, goal().get(m));
                if (lawful(next)) {
                    long order = orderFrom(next, left & ~(1 << m), digits * 10 + m);
                    if (order != NONE) {
                        return order;
                    }
                }
            }
        }
        return NONE;
    }

    int begin() {
        int bits = 0;
        for (int m = 0; m < meets.size(); m++) {
            if ((apart() >> m & 1) != 0 && !meets.get(m).fixed && lawful(with(plan, m, goal().get(m)))) {
                bits |= 1 << m;
            }
        }
        return bits;
    }

    int waits(int m) {
        int bits = 0;
        for (int o = 0; o < meets.size(); o++) {
            if ((apart() >> m & 1) != 0 && (apart() >> o & 1) != 0 && o != m && plan.get(o) != null) {
                Spot s = goal().get(m);
                boolean inRoom = plan.get(o).equals(s);
                if (inRoom || share(m, o) && plan.get(o).hour() == s.hour()) {
                    bits |= 1 << o;
                }
            }
        }
        return bits;
    }

    int knot() {
        List<Spot> made = plan;
        int left = apart();
        for (int round = 0; round < 20; round++) {
            for (int m = 0; m < meets.size(); m++) {
                if ((left >> m & 1) != 0 && !meets.get(m).fixed && lawful(with(made, m, goal().get(m)))) {
                    made = with(made, m, goal().get(m));
                    left &= ~(1 << m);
                }
            }
        }
        return left;
    }

    int news(int hour) {
        int who = 0;
        for (int p = 0; p < people.size(); p++) {
            for (int m = 0; m < meets.size(); m++) {
                Spot s = goal().get(m);
                boolean ahead = s != null && s.hour() < hour + people.get(p).delay;
                boolean same = s != null && plan.get(m) != null && plan.get(m).hour() == s.hour();
                if (meets.get(m).who.contains(p) && ahead && !same) {
                    who |= 1 << p;
                }
            }
        }
        return who;
    }

    int latest() {
        int last = NONE;
        for (int h = 0; h < hours; h++) {
            if (news(h) == 0) {
                last = h;
            }
        }
        return last;
    }

    int follow() {
        int many = Integer.bitCount(apart());
        if (many == 0) {
            return 0;
        }
        if (full()) {
            return -64;
        }
        if (!lawful(goal()) || fixedAmong(apart())) {
            return -1;
        }
        List<Spot> goal = goal();
        act(goal, movedTimes(goal));
        return many;
    }

    // ---- people ----

    int bears(List<Integer> times, int p) {
        int n = 0;
        for (int m = 0; m < meets.size(); m++) {
            n += meets.get(m).who.contains(p) ? times.get(m) : 0;
        }
        return n;
    }

    int pair(int p, int q, int without) {
        int n = 0;
        for (int m = 0; m < meets.size(); m++) {
            boolean both = meets.get(m).who.contains(p) && meets.get(m).who.contains(q);
            if (both && plan.get(m) != null && (without >> m & 1) == 0) {
                n++;
            }
        }
        return n;
    }

    int drops() {
        int best = 0;
        for (int set = (1 << meets.size()) - 1; set >= 0; set--) {
            boolean fine = allMovable(set);
            for (int p = 0; p < people.size(); p++) {
                for (int q = 0; q < p; q++) {
                    fine &= pair(p, q, 0) == 0 || pair(p, q, set) > 0;
                }
            }
            if (fine && Integer.bitCount(set) >= Integer.bitCount(best)) {
                best = set;
            }
        }
        return best;
    }

    int gap(int who) {
        int bits = 0;
        for (int h = 0; h < hours; h++) {
            boolean idle = true;
            for (int p = 0; p < people.size(); p++) {
                if ((who >> p & 1) != 0) {
                    idle &= !people.get(p).busy.contains(h);
                    for (int m = 0; m < meets.size(); m++) {
                        idle &= plan.get(m) == null || plan.get(m).hour() != h || !meets.get(m).who.contains(p);
                    }
                }
            }
            bits |= idle ? 1 << h : 0;
        }
        return bits;
    }

    int together(int who, int many) {
        for (int h = 0; h < hours; h++) {
            int row = 0;
            while (h + row < hours && (gap(who) >> h + row & 1) != 0) {
                row++;
            }
            if (row >= many) {
                return h;
            }
        }
        return NONE;
    }

    int fair(int what) {
        int most = 0;
        int least = Integer.MAX_VALUE;
        int who = NONE;
        for (int p = 0; p < people.size(); p++) {
            int b = bears(times, p);
            if (who == NONE || b > most) {
                who = p;
                most = b;
            }
            least = Math.min(least, b);
        }
        return what == 1 ? who : people.isEmpty() ? 0 : most - least;
    }

    // ---- pushing ----

    List<Spot> pushedPlan;
    int pushSteps;

    private List<Integer> inWay(List<Spot> made, int m, Spot s) {
        List<Integer> way = new ArrayList<>();
        for (int o = 0; o < meets.size(); o++) {
            if (o != m && made.get(o) != null && made.get(o).hour() == s.hour()
                && (made.get(o).room() == s.room() || share(m, o))) {
                way.add(o);
            }
        }
        return way;
    }

    private boolean couldEnter(List<Spot> made, int m, Spot s) {
        if (held(s) || (clash(made, m, s) & 19) != 0) {
            return false;
        }
        for (int o : inWay(made, m, s)) {
            if (meets.get(o).fixed) {
                return false;
            }
        }
        return true;
    }

    /** Whether it can go there; then pushedPlan and pushSteps tell the rest. */
    boolean push(int m, Spot s) {
        List<Spot> made = with(plan, m, null);
        if (meets.get(m).fixed || !couldEnter(made, m, s)) {
            return false;
        }
        Deque<Integer> row = new ArrayDeque<>();
        for (int o : inWay(made, m, s)) {
            made.set(o, null);
            row.add(o);
        }
        made.set(m, s);
        pushSteps = 0;
        while (!row.isEmpty() && pushSteps < 100) {
            int w = row.remove();
            Spot found = null;
            for (Spot t : spots()) {
                if (found == null && clash(made, w, t) == 0) {
                    found = t;
                }
            }
            for (Spot t : spots()) {
                if (found == null && couldEnter(made, w, t)) {
                    boolean so = true;
                    for (int o : inWay(made, w, t)) {
                        so &= ruleIsSo(o, w, t, pushSteps);
                    }
                    if (so) {
                        found = t;
                        for (int o : inWay(made, w, t)) {
                            made.set(o, null);
                            row.add(o);
                        }
                    }
                }
            }
            made.set(w, found);
            pushSteps++;
        }
        pushedPlan = made;
        return true;
    }

    int elsewhere(List<Spot> made) {
        int bits = 0;
        for (int m = 0; m < meets.size(); m++) {
            if (tenfold(made.get(m)) != tenfold(plan.get(m))) {
                bits |= 1 << m;
            }
        }
        return bits;
    }

    int newlyOut(List<Spot> made) {
        int bits = 0;
        for (int m = 0; m < meets.size(); m++) {
            if (made.get(m) == null && plan.get(m) != null) {
                bits |= 1 << m;
            }
        }
        return bits;
    }

    // ---- weeks ----

    List<Spot> weekPlan;
    List<Integer> weekTimes;
    int weekMoved;
    int weekRow;

    private long seed;

    private int draw(int many) {
        seed = (seed * 1103515245L + 12345L) & 0xffffffffL;
        return (int) ((seed / 65536L) % 32768L % many);
    }

    void week(int from, int n) {
        seed = from & 0xffffffffL;
        weekPlan = new ArrayList<>(plan);
        weekTimes = new ArrayList<>(times);
        weekMoved = 0;
        weekRow = 0;
        int row = 0;
        for (int i = 0; i < n; i++) {
            boolean moved = false;
            if (!meets.isEmpty()) {
                int m = draw(meets.size());
                int h = draw(hours);
                if (!meets.get(m).fixed && weekPlan.get(m) != null && weekPlan.get(m).hour() != h) {
                    for (int r = 0; r < rooms.size() && !moved; r++) {
                        if (clash(weekPlan, m, new Spot(h, r)) == 0) {
                            weekPlan.set(m, new Spot(h, r));
                            weekTimes.set(m, weekTimes.get(m) + 1);
                            moved = true;
                        }
                    }
                }
            }
            weekMoved += moved ? 1 : 0;
            row = moved ? 0 : row + 1;
            weekRow = Math.max(weekRow, row);
        }
    }

    int weekBorne() {
        int most = 0;
        for (int p = 0; p < people.size(); p++) {
            most = Math.max(most, bears(weekTimes, p));
        }
        return most;
    }
}

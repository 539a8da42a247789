import java.util.Arrays;
import java.util.NoSuchElementException;

/** A house whose meetings move when others do; ../shared/DOC.md says what each call answers. */
public final class YieldedHours {
    public static final int NONE = -1;

    private static final int MOST_BYTES = 600;
    private static final int MOST_TARGET_BYTES = 120;
    private static final int MOST_RULE_BYTES = 150;
    private static final int BYTES_A_FEED = 20;
    private static final int MOST_CLAUSES = 60;
    private static final int MOST_HOURS = 10;
    private static final int HOURS_UNTOLD = 8;
    private static final int MOST_ROOMS = 3;
    private static final int MOST_PEOPLE = 8;
    private static final int MOST_MEETINGS = 10;
    private static final int MOST_HOLDS = 4;
    private static final int MOST_OPEN = 6;
    private static final int MOST_OTHERS = 3;
    private static final int MOST_IN_RING = 4;
    private static final int MOST_ACTS = 30;
    private static final int MOST_IMAGES = 3;
    private static final int MOST_STEPS = 100;
    private static final int MOST_DRAWS = 60;
    private static final int MOST_WEEKS = 20;

    private static final int CANT_STAND = 1;
    private static final int NO_SUCH_NUMBER = 2;
    private static final int TOO_MANY = 3;
    private static final int HOURS_MISPLACED = 4;

    private static final int MAY_NOT = 1;
    private static final int BUSY = 2;
    private static final int PEOPLE_ELSEWHERE = 4;
    private static final int ROOM_TAKEN = 8;
    private static final int TOO_SMALL = 16;

    private static final int ACTS_FULL = -64;
    private static final int IS_FIXED = -32;

    private static final Word[] WORDS = Word.values();

    private final Tape tape;
    private final State now;
    private final State[] images;
    private int imageCount;
    private House home;
    private House spareHome;
    private Rule rule;
    private Rule spareRule;
    private final Target spareTarget;
    private final Board board;
    private final Fitter fitter;
    private final Rings ringSearch;
    private final Guide guide;
    private final Pusher pusher;
    private int missingRefusals;
    private int wrongRefusals;

    public YieldedHours() {
        tape = new Tape();
        home = new House();
        spareHome = new House();
        rule = new Rule();
        spareRule = new Rule();
        spareTarget = new Target();
        now = new State();
        images = new State[MOST_IMAGES];
        for (int i = 0; i < MOST_IMAGES; i++) {
            images[i] = new State();
        }
        board = new Board(home);
        fitter = new Fitter(board);
        ringSearch = new Rings(board);
        guide = new Guide(board);
        pusher = new Pusher(board);
    }

    // ---- the texts ----

    public int feed(int a, int b, int c, int d, int e) {
        if (tape.fed > MOST_BYTES - BYTES_A_FEED) {
            return NONE;
        }
        tape.append(a);
        tape.append(b);
        tape.append(c);
        tape.append(d);
        tape.append(e);
        return tape.fed;
    }

    public int house(int n) throws IllegalArgumentException {
        refuseUnless(n >= 0 && n <= tape.fed);
        tape.open(n);
        spareHome.read(tape);
        tape.empty();
        if (tape.failed()) {
            return tape.faultKind - 10;
        }
        House old = home;
        home = spareHome;
        spareHome = old;
        rule.forget();
        imageCount = 0;
        now.start(home);
        return home.meetings;
    }

    public int target(int n) throws IllegalArgumentException {
        refuseUnless(n >= 0 && n <= tape.fed && n <= MOST_TARGET_BYTES);
        tape.open(n);
        spareTarget.read(tape, home);
        tape.empty();
        if (tape.failed()) {
            return tape.faultKind - 10;
        }
        now.aim.copy(spareTarget);
        return now.aim.lines;
    }

    public int rule(int n) throws IllegalArgumentException {
        refuseUnless(n >= 0 && n <= tape.fed && n <= MOST_RULE_BYTES);
        tape.open(n);
        spareRule.read(tape);
        tape.empty();
        if (tape.failed()) {
            return tape.faultKind - 10;
        }
        Rule old = rule;
        rule = spareRule;
        spareRule = old;
        return 1;
    }

    public int fault() {
        return tape.faultAt;
    }

    // ---- looking ----

    public int told(int what) throws IllegalArgumentException {
        refuseUnless(what >= 0 && what <= 6);
        switch (what) {
            case 0: return home.hours;
            case 1: return home.rooms;
            case 2: return home.people;
            case 3: return home.meetings;
            case 4: return home.holds;
            case 5: return now.aim.lines;
            default: return home.meetings - Integer.bitCount(lookNow().placed());
        }
    }

    public int meeting(int meeting, int what) throws NoSuchElementException, IllegalArgumentException {
        needMeeting(meeting);
        refuseUnless(what >= 0 && what <= 6);
        int place = now.place[meeting];
        switch (what) {
            case 0: return place == NONE ? NONE : hourOf(place);
            case 1: return place == NONE ? NONE : roomOf(place);
            case 2: return home.weight[meeting];
            case 3: return home.isFixed(meeting) ? 1 : 0;
            case 4: return now.times[meeting];
            case 5: return home.members[meeting];
            default: return home.mayHours(meeting);
        }
    }

    public int person(int person, int what) throws NoSuchElementException, IllegalArgumentException {
        needPerson(person);
        refuseUnless(what >= 0 && what <= 4);
        switch (what) {
            case 0: return home.ask[person];
            case 1: return home.delay[person];
            case 2: return home.busyHours[person];
            case 3: return Integer.bitCount(lookNow().placed() & home.meetingsOf(person));
            default: return lookNow().bears(person);
        }
    }

    public int at(int hour, int room) throws NoSuchElementException, IllegalArgumentException {
        needRoom(room);
        needHour(hour);
        int place = placeOf(hour, room);
        for (int m = 0; m < home.meetings; m++) {
            if (now.place[m] == place) {
                return m;
            }
        }
        return NONE;
    }

    public int where(int person, int hour) throws NoSuchElementException, IllegalArgumentException {
        needPerson(person);
        needHour(hour);
        for (int m = 0; m < home.meetings; m++) {
            if (home.isMember(m, person) && now.place[m] != NONE && hourOf(now.place[m]) == hour) {
                return m;
            }
        }
        return NONE;
    }

    public int clash(int meeting, int hour, int room) throws NoSuchElementException, IllegalArgumentException {
        needPlace(meeting, hour, room);
        return lookNow().clashes(meeting, placeOf(hour, room));
    }

    public int clashing() {
        Board plan = lookNow();
        int bits = 0;
        for (int m = 0; m < home.meetings; m++) {
            if (plan.place[m] != NONE && !plan.isOpen(m, plan.place[m])) {
                bits |= 1 << m;
            }
        }
        return bits;
    }

    public int free(int meeting) throws NoSuchElementException {
        needMeeting(meeting);
        Board plan = lookNow();
        int places = 0;
        for (int room = 0; room < home.rooms; room++) {
            places += Integer.bitCount(plan.openHours(meeting, room));
        }
        return places;
    }

    // ---- acts ----

    public int move(int meeting, int hour, int room) throws NoSuchElementException, IllegalArgumentException {
        needPlace(meeting, hour, room);
        int place = placeOf(hour, room);
        if (now.place[meeting] == place) {
            return 0;
        }
        if (now.isFull()) {
            return ACTS_FULL;
        }
        if (home.isFixed(meeting)) {
            return IS_FIXED;
        }
        Board plan = lookNow();
        int clashes = plan.clashes(meeting, place);
        if (clashes != 0) {
            return -clashes;
        }
        plan.place[meeting] = place;
        plan.countMoved(now.place);
        now.act(plan);
        return 1;
    }

    public int drop(int meeting) throws NoSuchElementException {
        needMeeting(meeting);
        if (now.place[meeting] == NONE) {
            return 0;
        }
        if (now.isFull()) {
            return ACTS_FULL;
        }
        if (home.isFixed(meeting)) {
            return IS_FIXED;
        }
        Board plan = lookNow();
        plan.place[meeting] = NONE;
        now.act(plan);
        return 1;
    }

    public int undo() {
        return now.takeBack();
    }

    // ---- holds ----

    public int let(int hold) throws NoSuchElementException {
        needHold(hold);
        if (!now.isHeld(hold)) {
            return 0;
        }
        now.letGo |= 1 << hold;
        return 1;
    }

    public int hold(int hold, int what) throws NoSuchElementException, IllegalArgumentException {
        needHold(hold);
        refuseUnless(what >= 0 && what <= 4);
        switch (what) {
            case 0: return hourOf(home.holdPlace[hold]);
            case 1: return roomOf(home.holdPlace[hold]);
            case 2: return home.holdLoss[hold];
            case 3: return now.isHeld(hold) ? 1 : 0;
            default: return wouldTake(home.holdPlace[hold]);
        }
    }

    public int least() {
        int best = NONE;
        for (int i = 0; i < home.holds; i++) {
            if (now.isHeld(i) && (best == NONE || home.holdLoss[i] < home.holdLoss[best])) {
                best = i;
            }
        }
        return best;
    }

    // ---- what moves so that one fits ----

    public int fits(int meeting, int hour, int what) throws NoSuchElementException, IllegalArgumentException {
        needMeeting(meeting);
        needHour(hour);
        refuseUnless(what >= 0 && what <= 3);
        lookNow();
        fitter.search(meeting, hour);
        if (fitter.fewest == NONE) {
            return NONE;
        }
        switch (what) {
            case 0: return fitter.fewest;
            case 1: return fitter.which;
            case 2: return roomOf(fitter.goal[meeting]);
            default: return fitter.cheapest;
        }
    }

    public int goes(int meeting, int hour, int other) throws NoSuchElementException, IllegalArgumentException {
        needMeeting(meeting);
        needMeeting(other);
        needHour(hour);
        lookNow();
        fitter.search(meeting, hour);
        return tenfold(fitter.goal[other]);
    }

    public int hours(int meeting) throws NoSuchElementException {
        needMeeting(meeting);
        lookNow();
        int many = 0;
        for (int hour = 0; hour < home.hours; hour++) {
            fitter.search(meeting, hour);
            if (fitter.fewest != NONE) {
                many++;
            }
        }
        return many;
    }

    public boolean swap(int meeting, int other) throws NoSuchElementException, IllegalArgumentException {
        needMeeting(meeting);
        needMeeting(other);
        refuseUnless(meeting != other);
        lookNow();
        return ringSearch.couldSwap(meeting, other);
    }

    public int rings(int many, int what) throws IllegalArgumentException {
        refuseUnless(many >= 2 && many <= MOST_IN_RING && what >= 0 && what <= 1);
        lookNow();
        ringSearch.search(many);
        return what == 0 ? ringSearch.found : ringSearch.digits;
    }

    // ---- the target ----

    public int line(int i, int what) throws IllegalArgumentException {
        refuseUnless(what >= 0 && what <= 2);
        Target aim = now.aim;
        if (i < 0 || i >= aim.lines) {
            return NONE;
        }
        switch (what) {
            case 0: return aim.meeting[i];
            case 1: return hourOf(aim.place[i]);
            default: return roomOf(aim.place[i]);
        }
    }

    public int apart() {
        return lookAhead().apart;
    }

    public boolean once() {
        return lookAhead().lawfulAtOnce();
    }

    public long order(int what) throws IllegalArgumentException {
        refuseUnless(what >= 0 && what <= 1);
        long digits = lookAhead().firstOrder();
        return what == 0 && digits != NONE ? Integer.bitCount(guide.apart) : digits;
    }

    public int begin() {
        return lookAhead().beginners();
    }

    public int waits(int meeting) throws NoSuchElementException {
        needMeeting(meeting);
        return lookAhead().waitedFor(meeting);
    }

    public int knot() {
        return lookAhead().tangled();
    }

    public int news(int hour, int what) throws IllegalArgumentException {
        needHour(hour);
        refuseUnless(what >= 0 && what <= 1);
        int who = lookAhead().missers(hour);
        return what == 0 ? Integer.bitCount(who) : who;
    }

    public int latest() {
        Guide ahead = lookAhead();
        for (int hour = home.hours - 1; hour >= 0; hour--) {
            if (ahead.missers(hour) == 0) {
                return hour;
            }
        }
        return NONE;
    }

    public int follow() {
        Guide ahead = lookAhead();
        int many = Integer.bitCount(ahead.apart);
        if (many == 0) {
            return 0;
        }
        if (now.isFull()) {
            return ACTS_FULL;
        }
        if ((ahead.apart & home.fixedBits) != 0 || !ahead.lawfulAtOnce()) {
            return -1;
        }
        ahead.goAll();
        board.countMoved(now.place);
        now.act(board);
        return many;
    }

    // ---- people ----

    public int pair(int person, int other) throws NoSuchElementException, IllegalArgumentException {
        needPerson(person);
        needPerson(other);
        refuseUnless(person != other);
        int both = home.meetingsOf(person) & home.meetingsOf(other);
        return Integer.bitCount(both & lookNow().placed());
    }

    public int drops() {
        return lookNow().mostDrops();
    }

    public int gap(int people) throws IllegalArgumentException {
        needPeople(people);
        return lookNow().idleHours(people);
    }

    public int together(int people, int many) throws IllegalArgumentException {
        needPeople(people);
        refuseUnless(many >= 1 && many <= MOST_HOURS);
        int idle = lookNow().idleHours(people);
        int row = (1 << many) - 1;
        for (int hour = 0; hour + many <= home.hours; hour++) {
            if ((idle >> hour & row) == row) {
                return hour;
            }
        }
        return NONE;
    }

    public int fair(int what) throws IllegalArgumentException {
        refuseUnless(what >= 0 && what <= 1);
        Board plan = lookNow();
        int most = plan.mostBorne();
        int least = most;
        int who = NONE;
        for (int p = 0; p < home.people; p++) {
            int borne = plan.bears(p);
            least = Math.min(least, borne);
            if (who == NONE && borne == most) {
                who = p;
            }
        }
        return what == 0 ? most - least : who;
    }

    // ---- pushing ----

    public boolean yields(int other, int meeting) throws NoSuchElementException, IllegalArgumentException {
        needMeeting(other);
        needMeeting(meeting);
        refuseUnless(other != meeting && now.place[other] != NONE);
        Board plan = lookNow();
        rule.setWanted(plan.place[other], 0);
        return rule.isSo(plan, other, meeting);
    }

    public int pushes(int meeting, int hour, int room, int what) throws NoSuchElementException, IllegalArgumentException {
        needPlace(meeting, hour, room);
        refuseUnless(what >= 0 && what <= 2);
        Board plan = lookNow();
        int steps = pusher.run(rule, meeting, placeOf(hour, room));
        if (steps == NONE || what == 0) {
            return steps;
        }
        if (what == 1) {
            return Integer.bitCount(plan.elsewhere(now.place));
        }
        return plan.elsewhere(now.place) & ~plan.placed();
    }

    public int pushed(int meeting, int hour, int room, int other) throws NoSuchElementException, IllegalArgumentException {
        needMeeting(other);
        needPlace(meeting, hour, room);
        Board plan = lookNow();
        int steps = pusher.run(rule, meeting, placeOf(hour, room));
        return steps == NONE ? NONE : tenfold(plan.place[other]);
    }

    public int push(int meeting, int hour, int room) throws NoSuchElementException, IllegalArgumentException {
        needPlace(meeting, hour, room);
        if (now.isFull()) {
            return ACTS_FULL;
        }
        Board plan = lookNow();
        int steps = pusher.run(rule, meeting, placeOf(hour, room));
        if (steps != NONE) {
            plan.countMoved(now.place);
            now.act(plan);
        }
        return steps;
    }

    // ---- weeks ----

    public int week(int seed, int n, int what) throws IllegalArgumentException {
        refuseUnless(n >= 1 && n <= MOST_DRAWS && what >= 0 && what <= 2);
        Board plan = lookNow();
        plan.runWeek(seed, n);
        switch (what) {
            case 0: return plan.weekMoved;
            case 1: return plan.weekRefusedRow;
            default: return plan.mostBorne();
        }
    }

    public int done(int seed, int n) throws IllegalArgumentException {
        refuseUnless(n >= 1 && n <= MOST_DRAWS);
        if (now.isFull()) {
            return ACTS_FULL;
        }
        Board plan = lookNow();
        plan.runWeek(seed, n);
        now.act(plan);
        return plan.weekMoved;
    }

    public int span(int seed, int many, int n, int what) throws IllegalArgumentException {
        refuseUnless(many >= 1 && many <= MOST_WEEKS && n >= 1 && n <= MOST_DRAWS && what >= 0 && what <= 2);
        int fewest = MOST_DRAWS;
        int most = 0;
        int all = 0;
        for (int i = 0; i < many; i++) {
            Board plan = lookNow();
            plan.runWeek(seed + i, n);
            fewest = Math.min(fewest, plan.weekMoved);
            most = Math.max(most, plan.weekMoved);
            all += plan.weekMoved;
        }
        switch (what) {
            case 0: return fewest;
            case 1: return most;
            default: return all;
        }
    }

    // ---- images and counts ----

    public int image() {
        if (imageCount >= MOST_IMAGES) {
            return -1;
        }
        images[imageCount].copy(now);
        imageCount++;
        return imageCount;
    }

    public int restore() {
        if (imageCount <= 0) {
            return -1;
        }
        imageCount--;
        now.copy(images[imageCount]);
        return imageCount;
    }

    public int status(int what) {
        switch (what) {
            case 0: return missingRefusals;
            case 1: return wrongRefusals;
            default: return NONE;
        }
    }

    public int count(int what) {
        switch (what) {
            case 0: return imageCount;
            case 1: return tape.fed;
            case 2: return now.acts;
            default: return NONE;
        }
    }

    // ---- refusals ----

    private void refuseUnless(boolean fine) {
        if (!fine) {
            wrongRefusals++;
            throw new IllegalArgumentException();
        }
    }

    private void needOneOf(int i, int many) {
        if (i < 0 || i >= many) {
            missingRefusals++;
            throw new NoSuchElementException();
        }
    }

    private void needMeeting(int meeting) {
        needOneOf(meeting, home.meetings);
    }

    private void needPerson(int person) {
        needOneOf(person, home.people);
    }

    private void needRoom(int room) {
        needOneOf(room, home.rooms);
    }

    private void needHold(int hold) {
        needOneOf(hold, home.holds);
    }

    private void needHour(int hour) {
        refuseUnless(hour >= 0 && hour < home.hours);
    }

    private void needPlace(int meeting, int hour, int room) {
        needMeeting(meeting);
        needRoom(room);
        needHour(hour);
    }

    private void needPeople(int people) {
        refuseUnless((people & ~home.allPeople()) == 0);
    }

    // ---- helpers ----

    /** The plan as it is, on the one board that every search may change as it likes. */
    private Board lookNow() {
        board.load(home, now);
        return board;
    }

    private Guide lookAhead() {
        guide.load(lookNow(), now.aim);
        return guide;
    }

    private int wouldTake(int place) {
        Board plan = lookNow();
        int many = 0;
        for (int m = 0; m < home.meetings; m++) {
            if (plan.place[m] == NONE && (plan.clashes(m, place) & ~ROOM_TAKEN) == 0) {
                many++;
            }
        }
        return many;
    }

    private static int placeOf(int hour, int room) {
        return hour * MOST_ROOMS + room;
    }

    private static int hourOf(int place) {
        return place / MOST_ROOMS;
    }

    private static int roomOf(int place) {
        return place % MOST_ROOMS;
    }

    private static int tenfold(int place) {
        return place == NONE ? NONE : 10 * roomOf(place) + hourOf(place);
    }

    // ---- classes ----

    /** The words of both languages; room is one of each. */
    private enum Word {
        HOURS("hours", NONE),
        ROOM("room", 9),
        PERSON("person", NONE),
        BUSY("busy", NONE),
        MEET("meet", NONE),
        WHO("who", NONE),
        MAY("may", NONE),
        FIXED("fixed", NONE),
        MOVED("moved", NONE),
        HOLD("hold", NONE),
        OR("or", NONE),
        AND("and", NONE),
        NOT("not", NONE),
        COST("cost", 0),
        TIMES("times", 1),
        SIZE("size", 2),
        NUMBER("number", 3),
        MYCOST("mycost", 4),
        MYTIMES("mytimes", 5),
        MYSIZE("mysize", 6),
        MYNUMBER("mynumber", 7),
        HOUR("hour", 8),
        STEP("step", 10);

        final String text;
        /** Where a RULE finds its value, NONE if it is none. */
        final int slot;

        Word(String text, int slot) {
            this.text = text;
            this.slot = slot;
        }
    }

    /** The bytes that were fed, and the text that is read from them piece by piece; it keeps the first fault alone. */
    private static final class Tape {
        static final int END = 0;
        static final int DIGITS = 1;
        static final int LETTERS = 2;
        static final int SIGN = 3;
        /** Above every number that any text may hold, so that longer ones need not be told apart. */
        static final int HUGE = 1000;

        final int[] bytes = new int[MOST_BYTES];
        int fed;
        int length;
        int kind;
        int start;
        int end;
        int value;
        Word word;
        int faultKind;
        int faultAt = NONE;

        void append(int number) {
            for (int shift = 24; shift >= 0; shift -= 8) {
                if (fed < MOST_BYTES) {
                    bytes[fed] = number >>> shift & 255;
                    fed++;
                }
            }
        }

        void open(int n) {
            length = Math.min(n, fed);
            end = 0;
            faultKind = 0;
            faultAt = NONE;
            advance();
        }

        void empty() {
            fed = 0;
        }

        boolean failed() {
            return faultKind != 0;
        }

        void fail(int fault) {
            if (faultKind == 0) {
                faultKind = fault;
                faultAt = start;
            }
        }

        boolean atEnd() {
            return kind == END;
        }

        boolean atSign(char sign) {
            return kind == SIGN && value == sign;
        }

        void advance() {
            start = end;
            while (start < length && bytes[start] == ' ') {
                start++;
            }
            end = start;
            word = null;
            if (start >= length) {
                kind = END;
            } else if (isDigit(start)) {
                kind = DIGITS;
                scanDigits();
            } else if (isLetter(start)) {
                kind = LETTERS;
                scanLetters();
                word = findWord();
            } else {
                kind = SIGN;
                value = bytes[start];
                end = start + 1;
            }
        }

        void scanDigits() {
            value = 0;
            while (end < length && isDigit(end)) {
                value = Math.min(HUGE, value * 10 + bytes[end] - '0');
                end++;
            }
        }

        void scanLetters() {
            while (end < length && isLetter(end)) {
                end++;
            }
        }

        Word findWord() {
            for (Word each : WORDS) {
                String text = each.text;
                int same = 0;
                while (same < text.length() && start + same < end && text.charAt(same) == bytes[start + same]) {
                    same++;
                }
                if (same == text.length() && start + same == end) {
                    return each;
                }
            }
            return null;
        }

        boolean isDigit(int i) {
            return bytes[i] >= '0' && bytes[i] <= '9';
        }

        boolean isLetter(int i) {
            return bytes[i] >= 'a' && bytes[i] <= 'z';
        }

        /** The next number, which is to be from low to high; NONE behind a fault. */
        int number(int low, int high) {
            if (failed()) {
                return NONE;
            }
            if (kind != DIGITS) {
                fail(CANT_STAND);
                return NONE;
            }
            if (value < low || value > high) {
                fail(NO_SUCH_NUMBER);
                return NONE;
            }
            int number = value;
            advance();
            return number;
        }

        /** Whether the sign stood there and no fault is known: all that was read ahead of it may be used then. */
        boolean pass(char sign) {
            if (failed()) {
                return false;
            }
            if (!atSign(sign)) {
                fail(CANT_STAND);
                return false;
            }
            advance();
            return true;
        }
    }

    /** What a HOUSE tells; nothing of it changes till the next HOUSE is read. */
    private static final class House {
        int hours = HOURS_UNTOLD;
        int rooms;
        int people;
        int meetings;
        int holds;
        int fixedBits;
        final int[] roomSize = new int[MOST_ROOMS];
        final int[] ask = new int[MOST_PEOPLE];
        final int[] delay = new int[MOST_PEOPLE];
        final int[] busyHours = new int[MOST_PEOPLE];
        final int[] firstPlace = new int[MOST_MEETINGS];
        final int[] firstTimes = new int[MOST_MEETINGS];
        final int[] weight = new int[MOST_MEETINGS];
        final int[] members = new int[MOST_MEETINGS];
        final int[] mayTold = new int[MOST_MEETINGS];
        final int[] fineHours = new int[MOST_MEETINGS];
        final int[] holdPlace = new int[MOST_HOLDS];
        final int[] holdLoss = new int[MOST_HOLDS];

        void read(Tape tape) {
            forget();
            for (int clauses = 0; clauses <= MOST_CLAUSES && !tape.failed() && !tape.atEnd(); clauses++) {
                Word word = tape.word;
                int fault = wordFault(word, clauses);
                if (fault != 0) {
                    tape.fail(fault);
                } else {
                    tape.advance();
                    readClause(tape, word);
                }
            }
            settle();
        }

        void forget() {
            hours = HOURS_UNTOLD;
            rooms = 0;
            people = 0;
            meetings = 0;
            holds = 0;
            fixedBits = 0;
            Arrays.fill(busyHours, 0);
            Arrays.fill(firstTimes, 0);
            Arrays.fill(members, 0);
            Arrays.fill(mayTold, 0);
        }

        /** The least fault of a CLAUSE's word where it stands, 0 if it may stand there. */
        int wordFault(Word word, int clauses) {
            if (word == null) {
                return CANT_STAND;
            }
            boolean full = clauses >= MOST_CLAUSES;
            switch (word) {
                case HOURS:
                    return full ? TOO_MANY : clauses > 0 ? HOURS_MISPLACED : 0;
                case ROOM:
                    return full || rooms >= MOST_ROOMS ? TOO_MANY : 0;
                case PERSON:
                    return full || people >= MOST_PEOPLE ? TOO_MANY : 0;
                case MEET:
                    return full || meetings >= MOST_MEETINGS ? TOO_MANY : 0;
                case HOLD:
                    return full || holds >= MOST_HOLDS ? TOO_MANY : 0;
                case BUSY:
                case WHO:
                case MAY:
                case FIXED:
                case MOVED:
                    return full ? TOO_MANY : 0;
                default:
                    return CANT_STAND;
            }
        }

        void readClause(Tape tape, Word word) {
            if (word == null) {
                return;
            }
            switch (word) {
                case HOURS:
                    readHours(tape);
                    break;
                case ROOM:
                    readRoom(tape);
                    break;
                case PERSON:
                    readPerson(tape);
                    break;
                case BUSY:
                    readBusy(tape);
                    break;
                case MEET:
                    readMeet(tape);
                    break;
                case WHO:
                    readWho(tape);
                    break;
                case MAY:
                    readMay(tape);
                    break;
                case FIXED:
                    readFixed(tape);
                    break;
                case MOVED:
                    readMoved(tape);
                    break;
                default:
                    readHold(tape);
                    break;
            }
        }

        void readHours(Tape tape) {
            int n = tape.number(1, MOST_HOURS);
            if (tape.pass(';')) {
                hours = n;
            }
        }

        void readRoom(Tape tape) {
            int n = tape.number(0, 20);
            if (tape.pass(';') && rooms < MOST_ROOMS) {
                roomSize[rooms] = n;
                rooms++;
            }
        }

        void readPerson(Tape tape) {
            int a = tape.number(0, 9);
            int d = tape.number(0, 9);
            if (tape.pass(';') && people < MOST_PEOPLE) {
                ask[people] = a;
                delay[people] = d;
                people++;
            }
        }

        void readBusy(Tape tape) {
            int p = tape.number(0, people - 1);
            int from = tape.number(0, hours - 1);
            int to = tape.number(from, hours - 1);
            if (tape.pass(';')) {
                busyHours[p] |= hourBits(from, to);
            }
        }

        void readMeet(Tape tape) {
            int hour = tape.number(0, hours - 1);
            int room = tape.number(0, rooms - 1);
            int w = tape.number(0, 99);
            if (tape.pass(';') && meetings < MOST_MEETINGS) {
                firstPlace[meetings] = placeOf(hour, room);
                weight[meetings] = w;
                meetings++;
            }
        }

        void readHold(Tape tape) {
            int hour = tape.number(0, hours - 1);
            int room = tape.number(0, rooms - 1);
            int odds = tape.number(0, 16);
            int lost = tape.number(0, 99);
            if (tape.pass(';') && holds < MOST_HOLDS) {
                holdPlace[holds] = placeOf(hour, room);
                holdLoss[holds] = odds * lost;
                holds++;
            }
        }

        void readWho(Tape tape) {
            int m = tape.number(0, meetings - 1);
            int p = tape.number(0, people - 1);
            if (tape.pass(';')) {
                members[m] |= 1 << p;
            }
        }

        void readMay(Tape tape) {
            int m = tape.number(0, meetings - 1);
            int from = tape.number(0, hours - 1);
            int to = tape.number(from, hours - 1);
            if (tape.pass(';')) {
                mayTold[m] |= hourBits(from, to);
            }
        }

        void readFixed(Tape tape) {
            int m = tape.number(0, meetings - 1);
            if (tape.pass(';')) {
                fixedBits |= 1 << m;
            }
        }

        void readMoved(Tape tape) {
            int m = tape.number(0, meetings - 1);
            int n = tape.number(0, 99);
            if (tape.pass(';')) {
                firstTimes[m] = n;
            }
        }

        static int hourBits(int from, int to) {
            return (1 << to + 1) - (1 << from);
        }

        /** Clashes 1 and 2 never change, so they are worked out once. */
        void settle() {
            for (int m = 0; m < meetings; m++) {
                fineHours[m] = mayHours(m) & ~busyHoursOf(members[m]);
            }
        }

        int allPeople() {
            return (1 << people) - 1;
        }

        int mayHours(int m) {
            return mayTold[m] == 0 ? (1 << hours) - 1 : mayTold[m];
        }

        int busyHoursOf(int who) {
            int busy = 0;
            for (int p = 0; p < people; p++) {
                if ((who >> p & 1) != 0) {
                    busy |= busyHours[p];
                }
            }
            return busy;
        }

        boolean isFixed(int m) {
            return (fixedBits >> m & 1) != 0;
        }

        boolean isMember(int m, int person) {
            return (members[m] >> person & 1) != 0;
        }

        int meetingsOf(int person) {
            int bits = 0;
            for (int m = 0; m < meetings; m++) {
                if (isMember(m, person)) {
                    bits |= 1 << m;
                }
            }
            return bits;
        }

        int costOf(int m) {
            int cost = weight[m];
            for (int p = 0; p < people; p++) {
                if (isMember(m, p)) {
                    cost += ask[p];
                }
            }
            return cost;
        }
    }

    /** The lines of a TARGET. */
    private static final class Target {
        int lines;
        final int[] meeting = new int[MOST_MEETINGS];
        final int[] place = new int[MOST_MEETINGS];

        void read(Tape tape, House home) {
            lines = 0;
            int seen = 0;
            for (int i = 0; i <= MOST_MEETINGS && !tape.failed() && !tape.atEnd(); i++) {
                if (tape.kind == Tape.DIGITS && tape.value < home.meetings && (seen >> tape.value & 1) != 0) {
                    tape.fail(NO_SUCH_NUMBER);
                }
                int m = tape.number(0, home.meetings - 1);
                int hour = tape.number(0, home.hours - 1);
                int room = tape.number(0, home.rooms - 1);
                if (tape.pass(';') && lines < MOST_MEETINGS) {
                    seen |= 1 << m;
                    meeting[lines] = m;
                    place[lines] = placeOf(hour, room);
                    lines++;
                }
            }
        }

        void copy(Target from) {
            lines = from.lines;
            System.arraycopy(from.meeting, 0, meeting, 0, MOST_MEETINGS);
            System.arraycopy(from.place, 0, place, 0, MOST_MEETINGS);
        }
    }

    /** All that an IMAGE keeps: the one that is now, and the IMAGES. */
    private static final class State {
        final int[] place = new int[MOST_MEETINGS];
        final int[] times = new int[MOST_MEETINGS];
        final Target aim = new Target();
        int letGo;
        int acts;
        /** Places and times as they were ahead of each act. */
        final int[] oldPlace = new int[MOST_ACTS * MOST_MEETINGS];
        final int[] oldTimes = new int[MOST_ACTS * MOST_MEETINGS];

        void start(House home) {
            System.arraycopy(home.firstPlace, 0, place, 0, MOST_MEETINGS);
            System.arraycopy(home.firstTimes, 0, times, 0, MOST_MEETINGS);
            aim.lines = 0;
            letGo = 0;
            acts = 0;
        }

        void copy(State from) {
            System.arraycopy(from.place, 0, place, 0, MOST_MEETINGS);
            System.arraycopy(from.times, 0, times, 0, MOST_MEETINGS);
            aim.copy(from.aim);
            letGo = from.letGo;
            acts = from.acts;
            System.arraycopy(from.oldPlace, 0, oldPlace, 0, acts * MOST_MEETINGS);
            System.arraycopy(from.oldTimes, 0, oldTimes, 0, acts * MOST_MEETINGS);
        }

        boolean isHeld(int hold) {
            return (letGo >> hold & 1) == 0;
        }

        boolean isFull() {
            return acts >= MOST_ACTS;
        }

        /** The board's plan becomes this one's, as an act that can be undone. */
        void act(Board board) {
            if (isFull()) {
                return;
            }
            System.arraycopy(place, 0, oldPlace, acts * MOST_MEETINGS, MOST_MEETINGS);
            System.arraycopy(times, 0, oldTimes, acts * MOST_MEETINGS, MOST_MEETINGS);
            acts++;
            System.arraycopy(board.place, 0, place, 0, MOST_MEETINGS);
            System.arraycopy(board.times, 0, times, 0, MOST_MEETINGS);
        }

        int takeBack() {
            if (acts <= 0) {
                return -1;
            }
            acts--;
            System.arraycopy(oldPlace, acts * MOST_MEETINGS, place, 0, MOST_MEETINGS);
            System.arraycopy(oldTimes, acts * MOST_MEETINGS, times, 0, MOST_MEETINGS);
            return acts;
        }
    }

    /** A plan to try things on: it is laid anew for each call. */
    private static final class Board {
        House home;
        final int[] place = new int[MOST_MEETINGS];
        final int[] times = new int[MOST_MEETINGS];
        /** In which hours each room is held. */
        final int[] heldHours = new int[MOST_ROOMS];
        /** Meetings of each two people, for the search of drops. */
        final int[] common = new int[MOST_PEOPLE * MOST_PEOPLE];
        int weekMoved;
        int weekRefusedRow;

        Board(House home) {
            this.home = home;
        }

        void load(House home, State from) {
            this.home = home;
            System.arraycopy(from.place, 0, place, 0, MOST_MEETINGS);
            System.arraycopy(from.times, 0, times, 0, MOST_MEETINGS);
            Arrays.fill(heldHours, 0);
            for (int i = 0; i < home.holds; i++) {
                if (from.isHeld(i)) {
                    heldHours[roomOf(home.holdPlace[i])] |= 1 << hourOf(home.holdPlace[i]);
                }
            }
        }

        int placed() {
            int bits = 0;
            for (int m = 0; m < home.meetings; m++) {
                if (place[m] != NONE) {
                    bits |= 1 << m;
                }
            }
            return bits;
        }

        int elsewhere(int[] first) {
            int bits = 0;
            for (int m = 0; m < home.meetings; m++) {
                if (place[m] != first[m]) {
                    bits |= 1 << m;
                }
            }
            return bits;
        }

        void countMoved(int[] first) {
            for (int m = 0; m < home.meetings; m++) {
                if (place[m] != first[m]) {
                    times[m]++;
                }
            }
        }

        boolean isHeldPlace(int where) {
            return (heldHours[roomOf(where)] >> hourOf(where) & 1) != 0;
        }

        boolean sharesPerson(int m, int other) {
            return (home.members[m] & home.members[other]) != 0;
        }

        /** Those with whom m has clashes 4 there, and those with whom it has clashes 8, in the bits above MOST_MEETINGS. */
        int othersThere(int m, int where) {
            int people = 0;
            int room = 0;
            for (int other = 0; other < home.meetings; other++) {
                if (other != m && place[other] != NONE && hourOf(place[other]) == hourOf(where)) {
                    if (sharesPerson(m, other)) {
                        people |= 1 << other;
                    }
                    if (place[other] == where) {
                        room |= 1 << other;
                    }
                }
            }
            return room << MOST_MEETINGS | people;
        }

        int inWay(int m, int where) {
            int others = othersThere(m, where);
            return (others | others >> MOST_MEETINGS) & (1 << MOST_MEETINGS) - 1;
        }

        /** Clashes 1, 2 and 16. */
        int lastingClashes(int m, int where) {
            int bits = (home.mayHours(m) >> hourOf(where) & 1) == 0 ? MAY_NOT : 0;
            if ((home.busyHoursOf(home.members[m]) >> hourOf(where) & 1) != 0) {
                bits |= BUSY;
            }
            if (Integer.bitCount(home.members[m]) > home.roomSize[roomOf(where)]) {
                bits |= TOO_SMALL;
            }
            return bits;
        }

        int clashes(int m, int where) {
            int bits = lastingClashes(m, where);
            int others = othersThere(m, where);
            if ((others & (1 << MOST_MEETINGS) - 1) != 0) {
                bits |= PEOPLE_ELSEWHERE;
            }
            if (others >> MOST_MEETINGS != 0 || isHeldPlace(where)) {
                bits |= ROOM_TAKEN;
            }
            return bits;
        }

        /** The hours in which m would have no clashes in a room: the searches ask this far too often for one place at a time. */
        int openHours(int m, int room) {
            if (Integer.bitCount(home.members[m]) > home.roomSize[room]) {
                return 0;
            }
            int open = home.fineHours[m] & ~heldHours[room];
            for (int other = 0; other < home.meetings; other++) {
                int there = place[other];
                if (other != m && there != NONE && (roomOf(there) == room || sharesPerson(m, other))) {
                    open &= ~(1 << hourOf(there));
                }
            }
            return open;
        }

        boolean isOpen(int m, int where) {
            return (openHours(m, roomOf(where)) >> hourOf(where) & 1) != 0;
        }

        boolean isLawful() {
            for (int m = 0; m < home.meetings; m++) {
                if (place[m] != NONE && !isOpen(m, place[m])) {
                    return false;
                }
            }
            return true;
        }

        int bears(int person) {
            int borne = 0;
            for (int m = 0; m < home.meetings; m++) {
                if (home.isMember(m, person)) {
                    borne += times[m];
                }
            }
            return borne;
        }

        int mostBorne() {
            int most = 0;
            for (int p = 0; p < home.people; p++) {
                most = Math.max(most, bears(p));
            }
            return most;
        }

        int idleHours(int who) {
            int idle = (1 << home.hours) - 1 & ~home.busyHoursOf(who);
            for (int m = 0; m < home.meetings; m++) {
                if (place[m] != NONE && (home.members[m] & who) != 0) {
                    idle &= ~(1 << hourOf(place[m]));
                }
            }
            return idle;
        }

        int mostDrops() {
            int pairs = collectCommon();
            int mayGo = placed() & ~home.fixedBits;
            int best = 0;
            for (int set = 1; set < 1 << home.meetings; set++) {
                boolean more = Integer.bitCount(set) > Integer.bitCount(best);
                if ((set & ~mayGo) == 0 && more && pairsKeptWithout(set, pairs)) {
                    best = set;
                }
            }
            return best;
        }

        int collectCommon() {
            int pairs = 0;
            int placed = placed();
            for (int p = 0; p < home.people; p++) {
                for (int q = p + 1; q < home.people; q++) {
                    int both = home.meetingsOf(p) & home.meetingsOf(q) & placed;
                    if (both != 0 && pairs < common.length) {
                        common[pairs] = both;
                        pairs++;
                    }
                }
            }
            return pairs;
        }

        boolean pairsKeptWithout(int set, int pairs) {
            for (int i = 0; i < pairs && i < common.length; i++) {
                if ((common[i] & ~set) == 0) {
                    return false;
                }
            }
            return true;
        }

        void runWeek(int seed, int n) {
            weekMoved = 0;
            weekRefusedRow = 0;
            int row = 0;
            int drawn = seed;
            for (int i = 0; i < n; i++) {
                boolean moved = false;
                if (home.meetings > 0 && home.hours > 0) {
                    drawn = nextSeed(drawn);
                    int m = (drawn >>> 16 & 32767) % home.meetings;
                    drawn = nextSeed(drawn);
                    int hour = (drawn >>> 16 & 32767) % home.hours;
                    moved = movesInto(m, hour);
                }
                row = moved ? 0 : row + 1;
                weekRefusedRow = Math.max(weekRefusedRow, row);
                weekMoved += moved ? 1 : 0;
            }
        }

        static int nextSeed(int seed) {
            return seed * 1103515245 + 12345;
        }

        boolean movesInto(int m, int hour) {
            if (home.isFixed(m) || place[m] == NONE || hourOf(place[m]) == hour) {
                return false;
            }
            for (int room = 0; room < home.rooms; room++) {
                if ((openHours(m, room) >> hour & 1) != 0) {
                    place[m] = placeOf(hour, room);
                    times[m]++;
                    return true;
                }
            }
            return false;
        }
    }

    /** A RULE, kept as steps of a machine with a stack, so that asking it needs no reading. */
    private static final class Rule {
        static final int SLOTS = 11;
        static final int HOUR_SLOT = 8;
        static final int ROOM_SLOT = 9;
        static final int STEP_SLOT = 10;
        /** Codes below are numbers. */
        static final int FIRST_SLOT = 100;
        static final int FIRST_SIGN = 200;
        static final int NOT = FIRST_SIGN;
        static final int AND = FIRST_SIGN + 1;
        static final int OR = FIRST_SIGN + 2;
        static final int LESS = FIRST_SIGN + 3;
        static final int MORE = FIRST_SIGN + 4;
        static final int SAME = FIRST_SIGN + 5;
        static final int PLUS = FIRST_SIGN + 6;
        static final int MINUS = FIRST_SIGN + 7;
        static final int BY = FIRST_SIGN + 8;

        final int[] code = new int[MOST_RULE_BYTES];
        int length;
        final int[] stack = new int[MOST_RULE_BYTES];
        final int[] values = new int[SLOTS];

        void forget() {
            length = 0;
        }

        void read(Tape tape) {
            forget();
            readAny(tape, 0);
            if (!tape.atEnd()) {
                tape.fail(CANT_STAND);
            }
        }

        void emit(int step) {
            if (length < MOST_RULE_BYTES) {
                code[length] = step;
                length++;
            }
        }

        private void readAny(Tape tape, int open) {
            readAll(tape, open);
            for (int i = 0; i < MOST_RULE_BYTES && !tape.failed() && tape.word == Word.OR; i++) {
                tape.advance();
                readAll(tape, open);
                emit(OR);
            }
        }

        private void readAll(Tape tape, int open) {
            readOne(tape, open);
            for (int i = 0; i < MOST_RULE_BYTES && !tape.failed() && tape.word == Word.AND; i++) {
                tape.advance();
                readOne(tape, open);
                emit(AND);
            }
        }

        private void readOne(Tape tape, int open) {
            if (tape.failed()) {
                return;
            }
            if (tape.word == Word.NOT) {
                if (opens(tape, open)) {
                    readOne(tape, open + 1);
                    emit(NOT);
                }
            } else if (tape.atSign('[')) {
                if (opens(tape, open)) {
                    readAny(tape, open + 1);
                    tape.pass(']');
                }
            } else {
                readComparison(tape, open);
            }
        }

        boolean opens(Tape tape, int open) {
            if (open >= MOST_OPEN) {
                tape.fail(TOO_MANY);
                return false;
            }
            tape.advance();
            return true;
        }

        void readComparison(Tape tape, int open) {
            readSum(tape, open);
            if (tape.failed()) {
                return;
            }
            int sign = tape.atSign('<') ? LESS : tape.atSign('>') ? MORE : SAME;
            if (sign == SAME && !tape.atSign('=')) {
                tape.fail(CANT_STAND);
                return;
            }
            tape.advance();
            readSum(tape, open);
            emit(sign);
        }

        private void readSum(Tape tape, int open) {
            readProduct(tape, open);
            for (int i = 0; i < MOST_RULE_BYTES && !tape.failed() && (tape.atSign('+') || tape.atSign('-')); i++) {
                int sign = tape.atSign('+') ? PLUS : MINUS;
                tape.advance();
                readProduct(tape, open);
                emit(sign);
            }
        }

        private void readProduct(Tape tape, int open) {
            readUnit(tape, open);
            for (int i = 0; i < MOST_RULE_BYTES && !tape.failed() && tape.atSign('*'); i++) {
                tape.advance();
                readUnit(tape, open);
                emit(BY);
            }
        }

        private void readUnit(Tape tape, int open) {
            if (tape.failed()) {
                return;
            }
            Word word = tape.word;
            if (word != null && word.slot != NONE) {
                emit(FIRST_SLOT + word.slot);
                tape.advance();
            } else if (tape.atSign('(')) {
                if (opens(tape, open)) {
                    readSum(tape, open + 1);
                    tape.pass(')');
                }
            } else {
                emit(tape.number(0, FIRST_SLOT - 1));
            }
        }

        void setWanted(int place, int step) {
            values[HOUR_SLOT] = hourOf(place);
            values[ROOM_SLOT] = roomOf(place);
            values[STEP_SLOT] = step;
        }

        void setMeeting(int slot, Board board, int m) {
            if (slot + 3 < SLOTS) {
                values[slot] = board.home.weight[m];
                values[slot + 1] = board.times[m];
                values[slot + 2] = Integer.bitCount(board.home.members[m]);
                values[slot + 3] = m;
            }
        }

        /** Whether it is so of the one that has the place which was set as wanted. */
        boolean isSo(Board board, int has, int wants) {
            if (length == 0) {
                return false;
            }
            setMeeting(0, board, has);
            setMeeting(4, board, wants);
            int top = 0;
            for (int i = 0; i < length; i++) {
                int step = code[i];
                if (step < FIRST_SIGN && top < MOST_RULE_BYTES) {
                    stack[top] = operand(step);
                    top++;
                } else if (step == NOT && top >= 1) {
                    stack[top - 1] = 1 - stack[top - 1];
                } else if (top >= 2) {
                    top--;
                    stack[top - 1] = apply(step, stack[top - 1], stack[top]);
                }
            }
            return top == 1 && stack[0] != 0;
        }

        int operand(int step) {
            int slot = step - FIRST_SLOT;
            return slot >= 0 && slot < SLOTS ? values[slot] : step;
        }

        static int apply(int sign, int left, int right) {
            switch (sign) {
                case PLUS: return left + right;
                case MINUS: return left - right;
                case BY: return left * right;
                case LESS: return left < right ? 1 : 0;
                case MORE: return left > right ? 1 : 0;
                case SAME: return left == right ? 1 : 0;
                case AND: return left & right;
                default: return left | right;
            }
        }
    }

    /** Looks for all by which a MEETING FITS. */
    private static final class Fitter {
        final Board board;
        final int[] first = new int[MOST_MEETINGS];
        /** Where FEWEST has the MEETING and the others that move; NONE for all else. */
        final int[] goal = new int[MOST_MEETINGS];
        /** With whom each clashes where they are. */
        final int[] rubs = new int[MOST_MEETINGS];
        /** Who clashes where it is whoever else moves. */
        int stuck;
        final int[] others = new int[MOST_OTHERS];
        int otherCount;
        final int[] open = new int[MOST_OTHERS * MOST_ROOMS];
        int fewest;
        int which;
        int cheapest;

        Fitter(Board board) {
            this.board = board;
        }

        void search(int m, int hour) {
            fewest = NONE;
            which = 0;
            cheapest = NONE;
            Arrays.fill(goal, NONE);
            House home = board.home;
            int own = board.place[m];
            if (own == NONE || home.isFixed(m) && hourOf(own) != hour) {
                return;
            }
            System.arraycopy(board.place, 0, first, 0, MOST_MEETINGS);
            collectRubs();
            int placed = board.placed();
            int mayGo = placed & ~home.fixedBits & ~(1 << m);
            for (int set = 0; set < 1 << home.meetings; set++) {
                boolean may = (set & ~mayGo) == 0 && Integer.bitCount(set) <= MOST_OTHERS;
                if (may && restIsLawful(placed & ~set & ~(1 << m))) {
                    tryRooms(m, hour, set);
                }
            }
        }

        void collectRubs() {
            stuck = 0;
            for (int m = 0; m < board.home.meetings; m++) {
                int where = board.place[m];
                rubs[m] = 0;
                if (where != NONE) {
                    rubs[m] = board.inWay(m, where);
                    if (board.isHeldPlace(where) || board.lastingClashes(m, where) != 0) {
                        stuck |= 1 << m;
                    }
                }
            }
        }

        boolean restIsLawful(int rest) {
            if ((stuck & rest) != 0) {
                return false;
            }
            for (int m = 0; m < board.home.meetings; m++) {
                if ((rest >> m & 1) != 0 && (rubs[m] & rest) != 0) {
                    return false;
                }
            }
            return true;
        }

        void tryRooms(int m, int hour, int set) {
            House home = board.home;
            listOthers(set);
            int setCost = 0;
            for (int i = 0; i < otherCount; i++) {
                setCost += home.costOf(others[i]);
            }
            for (int room = 0; room < home.rooms; room++) {
                int place = placeOf(hour, room);
                if (home.isFixed(m) && place != first[m]) {
                    continue;
                }
                int cost = place == first[m] ? setCost : setCost + home.costOf(m);
                boolean fewer = fewest == NONE || otherCount < fewest;
                boolean cheaper = cheapest == NONE || cost < cheapest;
                // the places are looked for only where they could better an answer
                if (fewer || cheaper) {
                    boolean found = seatAll(m, place);
                    if (found && fewer) {
                        keepFewest(m, set);
                    }
                    if (found && cheaper) {
                        cheapest = cost;
                    }
                    System.arraycopy(first, 0, board.place, 0, MOST_MEETINGS);
                }
            }
        }

        void listOthers(int set) {
            otherCount = 0;
            for (int other = 0; other < board.home.meetings; other++) {
                if ((set >> other & 1) != 0 && otherCount < MOST_OTHERS) {
                    others[otherCount] = other;
                    otherCount++;
                }
            }
        }

        void keepFewest(int m, int set) {
            fewest = otherCount;
            which = set;
            Arrays.fill(goal, NONE);
            goal[m] = board.place[m];
            for (int i = 0; i < otherCount; i++) {
                goal[others[i]] = board.place[others[i]];
            }
        }

        boolean seatAll(int m, int place) {
            for (int i = 0; i < otherCount; i++) {
                board.place[others[i]] = NONE;
            }
            board.place[m] = place;
            if (!board.isOpen(m, place)) {
                return false;
            }
            // one that has no place now has none behind the others either
            for (int i = 0; i < otherCount; i++) {
                if (!findOpen(i)) {
                    return false;
                }
            }
            return seat(0);
        }

        boolean findOpen(int i) {
            if (i >= otherCount || i >= MOST_OTHERS) {
                return false;
            }
            int m = others[i];
            int any = 0;
            for (int room = 0; room < board.home.rooms; room++) {
                int hours = board.openHours(m, room);
                if (roomOf(first[m]) == room) {
                    hours &= ~(1 << hourOf(first[m]));
                }
                open[i * MOST_ROOMS + room] = hours;
                any |= hours;
            }
            return any != 0;
        }

        /** Seats the i-th of the others and all behind it; at most MOST_OTHERS calls stand open. */
        private boolean seat(int i) {
            if (i >= otherCount) {
                return true;
            }
            if (!findOpen(i)) {
                return false;
            }
            int m = others[i];
            for (int hour = 0; hour < board.home.hours; hour++) {
                for (int room = 0; room < board.home.rooms; room++) {
                    if ((open[i * MOST_ROOMS + room] >> hour & 1) != 0) {
                        board.place[m] = placeOf(hour, room);
                        if (seat(i + 1)) {
                            return true;
                        }
                    }
                }
            }
            board.place[m] = NONE;
            return false;
        }
    }

    /** Looks for RINGS. */
    private static final class Rings {
        final Board board;
        final int[] chain = new int[MOST_IN_RING];
        final int[] first = new int[MOST_MEETINGS];
        int many;
        int found;
        int digits;

        Rings(Board board) {
            this.board = board;
        }

        boolean couldSwap(int m, int other) {
            many = 2;
            chain[0] = m;
            chain[1] = other;
            return mayTurn(m) && mayTurn(other) && turns();
        }

        void search(int length) {
            many = Math.min(length, MOST_IN_RING);
            found = 0;
            digits = NONE;
            extend(0, 0);
        }

        boolean mayTurn(int m) {
            return board.place[m] != NONE && !board.home.isFixed(m);
        }

        /**
         * Puts each that may be the next one into the chain, behind the first only higher ones; at most MOST_IN_RING
         * and one calls stand open.
         */
        private void extend(int i, int used) {
            if (i >= many) {
                if (turns()) {
                    keep();
                }
                return;
            }
            int from = i == 0 ? 0 : chain[0] + 1;
            for (int m = from; m < board.home.meetings; m++) {
                if ((used >> m & 1) == 0 && mayTurn(m)) {
                    chain[i] = m;
                    extend(i + 1, used | 1 << m);
                }
            }
        }

        boolean turns() {
            System.arraycopy(board.place, 0, first, 0, MOST_MEETINGS);
            for (int i = 0; i < many; i++) {
                int next = i + 1 < many ? i + 1 : 0;
                board.place[chain[i]] = first[chain[next]];
            }
            boolean lawful = board.isLawful();
            System.arraycopy(first, 0, board.place, 0, MOST_MEETINGS);
            return lawful;
        }

        void keep() {
            if (found == 0) {
                digits = 0;
                for (int i = 0; i < many; i++) {
                    digits = digits * 10 + chain[i];
                }
            }
            found++;
        }
    }

    /** The way to the TARGET. */
    private static final class Guide {
        final Board board;
        final int[] first = new int[MOST_MEETINGS];
        final int[] goal = new int[MOST_MEETINGS];
        /** By those that have gone: whether the plan is lawful then and the rest can go one by one. */
        final boolean[] leads = new boolean[1 << MOST_MEETINGS];
        int apart;

        Guide(Board board) {
            this.board = board;
        }

        void load(Board plan, Target aim) {
            System.arraycopy(plan.place, 0, first, 0, MOST_MEETINGS);
            System.arraycopy(plan.place, 0, goal, 0, MOST_MEETINGS);
            for (int i = 0; i < aim.lines; i++) {
                goal[aim.meeting[i]] = aim.place[i];
            }
            apart = 0;
            for (int m = 0; m < plan.home.meetings; m++) {
                if (goal[m] != first[m]) {
                    apart |= 1 << m;
                }
            }
        }

        void goAll() {
            goOnly(apart);
        }

        void goOnly(int gone) {
            for (int m = 0; m < board.home.meetings; m++) {
                board.place[m] = (gone >> m & 1) != 0 ? goal[m] : first[m];
            }
        }

        boolean lawfulAfter(int gone) {
            goOnly(gone);
            boolean lawful = board.isLawful();
            goOnly(0);
            return lawful;
        }

        boolean lawfulAtOnce() {
            return lawfulAfter(apart);
        }

        int beginners() {
            int bits = 0;
            for (int m = 0; m < board.home.meetings; m++) {
                int bit = 1 << m;
                if ((apart & ~board.home.fixedBits & bit) != 0 && lawfulAfter(bit)) {
                    bits |= bit;
                }
            }
            return bits;
        }

        long firstOrder() {
            if ((apart & board.home.fixedBits) != 0) {
                return NONE;
            }
            for (int gone = apart; gone > 0; gone = gone - 1 & apart) {
                leads[gone] = (gone == apart || nextOf(gone) != NONE) && lawfulAfter(gone);
            }
            long digits = 0;
            int gone = 0;
            for (int i = Integer.bitCount(apart); i > 0; i--) {
                int next = nextOf(gone);
                if (next == NONE) {
                    return NONE;
                }
                digits = digits * 10 + next;
                gone |= 1 << next;
            }
            return digits;
        }

        /** The least that can go behind those that have gone, so that all the rest can. */
        int nextOf(int gone) {
            for (int m = 0; m < board.home.meetings; m++) {
                if ((apart & ~gone & 1 << m) != 0 && leads[gone | 1 << m]) {
                    return m;
                }
            }
            return NONE;
        }

        int waitedFor(int m) {
            if ((apart >> m & 1) == 0) {
                return 0;
            }
            return board.inWay(m, goal[m]) & apart;
        }

        int tangled() {
            int gone = 0;
            boolean went = true;
            for (int round = 0; round <= MOST_MEETINGS && went; round++) {
                went = false;
                for (int m = 0; m < board.home.meetings; m++) {
                    int bit = 1 << m;
                    if ((apart & ~gone & ~board.home.fixedBits & bit) != 0 && lawfulAfter(gone | bit)) {
                        gone |= bit;
                        went = true;
                    }
                }
            }
            return apart & ~gone;
        }

        int missers(int hour) {
            int who = 0;
            for (int p = 0; p < board.home.people; p++) {
                int from = hour + board.home.delay[p];
                for (int m = 0; m < board.home.meetings; m++) {
                    if (board.home.isMember(m, p) && isLateFor(m, from)) {
                        who |= 1 << p;
                    }
                }
            }
            return who;
        }

        boolean isLateFor(int m, int from) {
            if (goal[m] == NONE || hourOf(goal[m]) >= from) {
                return false;
            }
            return first[m] == NONE || hourOf(first[m]) != hourOf(goal[m]);
        }
    }

    /** PUSH, done on the board. */
    private static final class Pusher {
        final Board board;
        final int[] row = new int[MOST_MEETINGS];
        int waiting;

        Pusher(Board board) {
            this.board = board;
        }

        /** How many steps it takes; NONE if the MEETING can't go there. */
        int run(Rule rule, int m, int where) {
            waiting = 0;
            int way = board.inWay(m, where);
            if (board.home.isFixed(m) || !mayEnter(m, where, way)) {
                return NONE;
            }
            board.place[m] = where;
            leave(way);
            int steps = 0;
            while (waiting > 0 && steps < MOST_STEPS) {
                look(rule, steps);
                steps++;
            }
            return steps;
        }

        boolean mayEnter(int m, int where, int way) {
            return (way & board.home.fixedBits) == 0 && !board.isHeldPlace(where) && board.lastingClashes(m, where) == 0;
        }

        /** They are nowhere while they wait, so that whoever is left waiting is OUT. */
        void leave(int way) {
            for (int m = 0; m < board.home.meetings; m++) {
                if ((way >> m & 1) != 0 && waiting < MOST_MEETINGS) {
                    board.place[m] = NONE;
                    row[waiting] = m;
                    waiting++;
                }
            }
        }

        void look(Rule rule, int step) {
            int m = row[0];
            waiting--;
            System.arraycopy(row, 1, row, 0, MOST_MEETINGS - 1);
            int where = firstOpen(m);
            if (where == NONE) {
                where = firstYielded(rule, m, step);
                if (where == NONE) {
                    return;
                }
                leave(board.inWay(m, where));
            }
            board.place[m] = where;
        }

        int firstOpen(int m) {
            for (int hour = 0; hour < board.home.hours; hour++) {
                for (int room = 0; room < board.home.rooms; room++) {
                    if (board.isOpen(m, placeOf(hour, room))) {
                        return placeOf(hour, room);
                    }
                }
            }
            return NONE;
        }

        int firstYielded(Rule rule, int m, int step) {
            for (int hour = 0; hour < board.home.hours; hour++) {
                for (int room = 0; room < board.home.rooms; room++) {
                    int where = placeOf(hour, room);
                    int way = board.inWay(m, where);
                    if (mayEnter(m, where, way) && allYield(rule, m, where, way, step)) {
                        return where;
                    }
                }
            }
            return NONE;
        }

        boolean allYield(Rule rule, int m, int where, int way, int step) {
            rule.setWanted(where, step);
            for (int other = 0; other < board.home.meetings; other++) {
                if ((way >> other & 1) != 0 && !rule.isSo(board, other, m)) {
                    return false;
                }
            }
            return true;
        }
    }
}

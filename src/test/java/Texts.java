import java.util.Random;

/** Texts by chance, from seeds: mostly right ones, and such as were spoilt somewhere. */
final class Texts {
    private final Random random;
    private final StringBuilder text = new StringBuilder();

    int hours = 8;
    int rooms;
    int people;
    int meetings;
    int holds;

    Texts(Random random) {
        this.random = random;
    }

    int upTo(int most) {
        return random.nextInt(most + 1);
    }

    private boolean chance(int ofTen) {
        return random.nextInt(10) < ofTen;
    }

    private void put(String word, int... numbers) {
        text.append(chance(1) ? " " : "").append(word);
        for (int n : numbers) {
            text.append(chance(1) ? "  " : " ").append(n);
        }
        text.append(chance(1) ? " ;" : ";");
    }

    private boolean fits() {
        return text.length() < 560;
    }

    /** A house within bounds; its sizes are kept in the fields above. */
    String house(int mostHours, int mostRooms, int mostPeople, int mostMeetings) {
        text.setLength(0);
        hours = 8;
        if (mostHours < 8 || chance(7)) {
            hours = 1 + upTo(mostHours - 1);
            put("hours", hours);
        }
        rooms = upTo(mostRooms - 1) + 1;
        for (int i = 0; i < rooms; i++) {
            put("room", chance(8) ? 2 + upTo(6) : upTo(2));
        }
        people = chance(9) ? upTo(mostPeople) : 0;
        for (int i = 0; i < people; i++) {
            put("person", upTo(9), chance(5) ? 0 : upTo(4));
        }
        meetings = chance(9) ? 1 + upTo(mostMeetings - 1) : 0;
        boolean[] taken = new boolean[30];
        for (int i = 0; i < meetings; i++) {
            int spot = random.nextInt(hours * rooms);
            for (int tries = 0; tries < 6 && taken[spot]; tries++) {
                spot = random.nextInt(hours * rooms);
            }
            taken[spot] = true;
            put("meet", spot / rooms, spot % rooms, upTo(20));
        }
        more();
        return text.append(chance(1) ? " " : "").toString();
    }

    private void more() {
        int density = upTo(2) + 1;
        for (int m = 0; m < meetings; m++) {
            for (int i = 0; i < density && people > 0 && fits(); i++) {
                if (chance(6)) {
                    put("who", m, random.nextInt(people));
                }
            }
        }
        holds = upTo(2);
        for (int i = 0; i < holds; i++) {
            if (fits()) {
                put("hold", random.nextInt(hours), random.nextInt(rooms), upTo(16), upTo(9));
            } else {
                holds = i;
            }
        }
        for (int i = upTo(5); i > 0 && fits(); i--) {
            oneMore();
        }
    }

    private void oneMore() {
        int from = random.nextInt(hours);
        int to = from + random.nextInt(hours - from);
        int kind = upTo(5);
        if (kind == 0 && people > 0) {
            put("busy", random.nextInt(people), from, to);
        } else if (meetings > 0) {
            int m = random.nextInt(meetings);
            if (kind == 1) {
                put("fixed", m);
            } else if (kind <= 3) {
                put("may", m, from, to);
            } else {
                put("moved", m, upTo(12));
            }
        }
    }

    String target() {
        text.setLength(0);
        int lines = meetings == 0 ? 0 : upTo(meetings);
        int told = 0;
        for (int i = 0; i < lines; i++) {
            int m = random.nextInt(meetings);
            if ((told >> m & 1) == 0) {
                told |= 1 << m;
                text.append(m + " " + random.nextInt(hours) + " " + random.nextInt(rooms) + ";");
            }
        }
        return text.toString();
    }

    String rule() {
        text.setLength(0);
        any(2);
        return text.length() <= 150 ? text.toString() : "mycost > cost";
    }

    private void any(int deep) {
        all(deep);
        while (chance(2)) {
            text.append(" or ");
            all(deep);
        }
    }

    private void all(int deep) {
        one(deep);
        while (chance(2)) {
            text.append(" and ");
            one(deep);
        }
    }

    private void one(int deep) {
        if (deep > 0 && chance(2)) {
            text.append("not ");
            one(deep - 1);
        } else if (deep > 0 && chance(2)) {
            text.append("[");
            any(deep - 1);
            text.append("]");
        } else {
            sum(deep);
            text.append("<>=".charAt(upTo(2)));
            sum(deep);
        }
    }

    private void sum(int deep) {
        product(deep);
        while (chance(2)) {
            text.append(chance(5) ? "+" : " -");
            product(deep);
        }
    }

    private void product(int deep) {
        unit(deep);
        while (chance(2)) {
            text.append("*");
            unit(deep);
        }
    }

    private static final String[] NAMES = {"cost", "times", "size", "number", "mycost", "mytimes", "mysize",
        "mynumber", "hour", "room", "step"};

    private void unit(int deep) {
        if (deep > 0 && chance(1)) {
            text.append("(");
            sum(deep - 1);
            text.append(")");
        } else if (chance(7)) {
            text.append(NAMES[random.nextInt(NAMES.length)]);
        } else {
            text.append(chance(8) ? upTo(9) : upTo(99));
        }
    }

    private static final String[] PIECES = {" ", ";", "0", "7", "99", "100", "4294967296", "x", "or", "and ", "not ",
        "(", ")", "[", "]", "<", "=", "*", "-", "hours 3;", "room 5;", "hold 0 0 1 1;", "fixed 0;", "\u00e9", "\u0000",
        "room", "hour", "person 1 1;", "meet 0 0 1;", "who", "A", "may 0 1 0;", "busy 0 2 1;", "((((", "[[[", "not not "};

    /** The same text with a piece cut out, put in or doubled, and at times cut short. */
    String spoilt(String from, int most) {
        StringBuilder s = new StringBuilder(from);
        for (int i = 1 + upTo(1); i > 0; i--) {
            int at = upTo(s.length());
            int kind = upTo(3);
            if (kind == 0 && at < s.length()) {
                s.deleteCharAt(at);
            } else if (kind == 1) {
                s.setLength(at);
            } else if (kind == 2 && s.length() + 40 < most) {
                int to = Math.min(s.length(), at + 12);
                s.insert(upTo(s.length()), s.substring(at, to));
            } else {
                s.insert(at, PIECES[random.nextInt(PIECES.length)]);
            }
        }
        return s.length() <= most ? s.toString() : s.substring(0, most);
    }
}

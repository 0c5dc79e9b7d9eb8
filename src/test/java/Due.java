import java.nio.charset.StandardCharsets;

/** What the tests of the project share: answers that are due, and texts for the tape. */
final class Due {
    static final int BAD = -1000000001, NO = -1000000002, FULL = -1000000003, NONE = -1000000005;
    static final int NOTHING = -1000000011, KIND = -1000000012, INDEX = -1000000013, SIZE = -1000000014;
    static final int LOW = Integer.MIN_VALUE, HIGH = Integer.MAX_VALUE;
    /** Numbers that are too small or too large for most arguments. */
    static final int[] WILD = {LOW, BAD, NONE, -1, HIGH};

    private static int asked = 0;
    private static int wrong = 0;

    private Due() {
    }

    static void due(String call, long got, long want) {
        asked++;
        if (got != want) {
            wrong++;
            System.out.println(call + " answered " + got + ", due is " + want);
        }
    }

    static void end() {
        System.out.println(wrong == 0 ? asked + " answers, all as due" : wrong + " of " + asked + " answers are not as due");
        if (wrong != 0) {
            System.exit(1);
        }
    }

    /** Puts a text on the empty tape, to the byte. */
    static void tape(HalfFriends x, String text) {
        byte[] bytes = text.getBytes(StandardCharsets.ISO_8859_1);
        for (int k = 0; k < bytes.length; k += 12) {
            x.feed(four(bytes, k), four(bytes, k + 4), four(bytes, k + 8));
        }
        due("trim to the length of " + text, x.trim(bytes.length), bytes.length);
    }

    static int text(HalfFriends x, String text) {
        tape(x, text);
        return x.text();
    }

    static int four(byte[] bytes, int at) {
        int v = 0;
        for (int k = at; k < at + 4; k++) {
            v = v << 8 | (k < bytes.length ? bytes[k] & 255 : 'x');
        }
        return v;
    }

    /** A ring of so many PEOPLE, each of the KIND, with these minds and price 10. */
    static HalfFriends ring(int kind, int... minds) {
        HalfFriends x = new HalfFriends();
        for (int mind : minds) {
            x.person(kind, mind, 10);
        }
        for (int k = 0; k < minds.length; k++) {
            x.friends(k, (k + 1) % minds.length, 1);
        }
        return x;
    }

    /** What can be seen of an object without a change, as one row of numbers. */
    static String look(HalfFriends x) {
        StringBuilder s = new StringBuilder();
        for (int k = 0; k < 10; k++) {
            s.append(x.count(k)).append(' ');
        }
        for (int k = 0; k < 6; k++) {
            s.append(x.town(k)).append(' ');
        }
        for (int one = 0; one < x.count(0); one++) {
            for (int what = 0; what < 9; what++) {
                s.append(x.told(one, what)).append(' ');
            }
        }
        for (int k = 0; k < 3; k++) {
            s.append(x.why(k)).append(' ');
        }
        for (int k = 0; k < 4; k++) {
            s.append(x.reads(k)).append(' ');
        }
        for (int k = 0; k < 5; k++) {
            s.append(x.ask(k, 0)).append(' ').append(x.rest(k, 1000)).append(' ').append(x.item(k, 0)).append(' ');
        }
        return s.toString();
    }
}

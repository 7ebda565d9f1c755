/** Numbers about bounds, and objects that stand at them. */
final class Bounds {
    static final int MIN = Integer.MIN_VALUE, MAX = Integer.MAX_VALUE;
    static final int NONE = -1, BAD = -2, STATE = -3, FULL = -4, MISSING = -5;
    static final int NOTHING = -11, CAST = -12, PLACE = -13, SIZE = -14;

    private Bounds() {
    }

    /** Numbers that are none of 0 .. n - 1; some of them look like one in their lowest 5, 8 or 16 bits. */
    static int[] outside(int n) {
        int next32 = (n + 31) / 32 * 32;
        int next256 = (n + 255) / 256 * 256;
        return new int[] {-1, -2, -32, -256, -65536, MIN, MIN + 1, n, n + 1, next32 + 32, next256 + 256, 65536, 1 << 30, MAX};
    }

    /** Numbers below 0. */
    static int[] below() {
        return new int[] {-1, -2, -32, -256, -65536, MIN, MIN + 1};
    }

    /** Words of one kind, by persons 0, 1, .. 7, 0, .., each showing nothing. */
    static HeardWords words(int kind, int n) {
        HeardWords x = new HeardWords();
        for (int i = 0; i < n; i++) {
            x.word(kind, i % 8, 0);
        }
        return x;
    }

    /** Fourteen words of which each but the first holds the one ahead of it; word i is by person i % 8. */
    static HeardWords chain() {
        HeardWords x = words(6, 14);
        for (int i = 1; i < 14; i++) {
            x.hold(i, i - 1);
        }
        return x;
    }

    /** Feeds a text four bytes a call, as calls of an object are few. */
    static void feed(HeardWords x, String text) {
        for (int from = 0; from < text.length(); from += 4) {
            int n = Math.min(4, text.length() - from);
            int bytes = 0;
            for (int i = 0; i < n; i++) {
                bytes = bytes << 8 | text.charAt(from + i);
            }
            x.feed(bytes, n);
        }
    }

    static int rule(HeardWords x, int land, String text) {
        feed(x, text);
        return x.rule(land);
    }

    /** A rule's text of some clauses, each of which takes seven bytes. */
    static String clauses(int n) {
        StringBuilder s = new StringBuilder();
        for (int i = 0; i < n; i++) {
            s.append(i == 0 ? "" : ";").append("out k=9");
        }
        return s.toString();
    }
}

/** Promises 25 to 33: way, act, trace, taken, count, tape, item, read, shift. */
public final class WaysActsTapesTest {
    private static final int BYTES = 0, SHORTS = 1, INTS = 2, LONGS = 3, BOOLEANS = 4;

    private WaysActsTapesTest() {
    }

    public static void main(String[] args) {
        way();
        wayBeyond();
        wayOfManyLayers();
        act();
        actWrong();
        traceKept();
        taken();
        count();
        tape();
        item();
        read();
        shift();
        shiftWrong();
        Due.finish();
    }

    private static void write(HeardWords x, int tape, int from, int... row) {
        for (int i = 0; i < row.length; i++) {
            x.item(tape, from + i, row[i]);
        }
    }

    /** 0 by 0; 1 WRITTEN by 1; 2 COPY by 2 holds 1 and 0; two rules of land 0, one of land 1. */
    private static HeardWords withWays() {
        HeardWords x = new HeardWords();
        x.word(0, 0, 0);
        x.word(2, 1, 0);
        x.hold(1, 0);
        x.word(5, 2, 0);
        x.hold(2, 1);
        x.hold(2, 0);
        Due.rule(x, 0, "out b=0;in b=0");
        Due.rule(x, 1, "out b=2;out b=2;out b=1;in e=2;in b=2");
        Due.rule(x, 0, "out b=1;need 0 b=1;in b=1;in b=2");
        return x;
    }

    private static void way() {
        HeardWords x = withWays();
        x.tape(0, BYTES, 12);
        write(x, 0, 2, -1, -1, -1, 2, 1, -1, 1, -1);
        Due.due("25 all right", x.way(0, 2, 2, 0, 0), 8);
        Due.due("25 a part alone", x.way(0, 4, 1, 0, 0), 4);
        Due.due("25 end 1 has no parts", x.way(0, 2, 2, 1, 0), 2);
        Due.due("25 end 3 has its parts", x.way(0, 2, 2, 3, 0), 8);
        Due.due("25 the first isn't right", x.way(0, 0, 2, 0, 0), 0);
        x.item(0, 8, 0);
        Due.due("25 right ahead of the first that isn't", x.way(0, 2, 2, 0, 0), 6);
        x.item(0, 5, 3);
        Due.due("25 another clause", x.way(0, 2, 2, 0, 0), 3);
        write(x, 0, 0, 4, -1, -1, -1, 9);
        Due.due("25 land 1, and word 0 twice", x.way(0, 0, 2, 0, 1), 4);
        x.item(0, 0, 3);
        Due.due("25 parts of end 2 are offered to end 0", x.way(0, 0, 2, 2, 1), 4);
        x.item(0, 0, 256 + 3);
        Due.due("25 the bytes as they are kept", x.way(0, 0, 2, 2, 1), 4);
    }

    private static void wayBeyond() {
        HeardWords x = withWays();
        Due.due("25 the tape holds nothing", x.way(0, 0, 0, 0, 0), 100);
        x.tape(0, BYTES, 3);
        write(x, 0, 0, 1, -1, 1);
        Due.due("25 all right", x.way(0, 0, 0, 0, 0), 2);
        Due.due("25 beyond the row", x.way(0, 2, 0, 0, 0), 101);
        Due.due("25 at its end", x.way(0, 3, 0, 0, 0), 100);
        Due.due("25 far beyond", x.way(0, Integer.MAX_VALUE, 0, 0, 0), 100);
        Due.due("25 below 0", x.way(0, -1, 0, 0, 0), 100);
        Due.due("25 far below 0", x.way(0, Integer.MIN_VALUE, 0, 0, 0), 100);
        x.tape(1, BYTES, 0);
        Due.due("25 an empty row", x.way(1, 0, 0, 0, 0), 100);
        for (int sort = SHORTS; sort <= BOOLEANS; sort++) {
            x.tape(1, sort, 5);
            Due.due("25 no row of bytes", x.way(1, 0, 0, 0, 0), -12);
        }
        Due.due("25 NONE ahead of CAST", x.way(1, 0, 3, 0, 0), -1);
        Due.due("25 tape", x.way(6, 0, 0, 0, 0), -1);
        Due.due("25 tape", x.way(-1, 0, 0, 0, 0), -1);
        Due.due("25 word", x.way(0, 0, -1, 0, 0), -1);
        Due.due("25 end", x.way(0, 0, 0, 4, 0), -1);
        Due.due("25 end", x.way(0, 0, 0, -1, 0), -1);
        Due.due("25 land", x.way(0, 0, 0, 0, 2), -1);
        Due.due("25 land", x.way(0, 0, 0, 0, -1), -1);
        HeardWords y = new HeardWords();
        y.word(0, 0, 0);
        Due.rule(y, 1, "out b=0");
        Due.due("25 no rules of the land", y.way(0, 0, 0, 0, 0), 0);
        Due.due("25 no rules of the land, below 0", y.way(0, -7, 0, 0, 0), 0);
        y.tape(0, INTS, 1);
        Due.due("25 no rules, but ints", y.way(0, 0, 0, 0, 0), -12);
    }

    /** A word whose layers are thousands: a layer counts each time that it is come to. */
    private static void wayOfManyLayers() {
        HeardWords x = new HeardWords();
        for (int i = 0; i < 14; i++) {
            x.word(2, i == 0 ? 1 : 2, 0);
            for (int part = 0; part < i && part < 4; part++) {
                x.hold(i, i - 1 - part);
            }
        }
        Due.due("25 no rules", x.way(0, 0, 13, 0, 0), 0);
        Due.rule(x, 0, "in b=1;out b=1");
        x.tape(0, BYTES, 60);
        for (int i = 0; i < 60; i++) {
            x.item(0, i, -1);
        }
        Due.due("25 14 layers down the first parts come to word 0", x.way(0, 0, 13, 0, 0), 13);
        x.item(0, 13, 0);
        Due.due("25 word 0 again from word 2", x.way(0, 0, 13, 0, 0), 14);
        write(x, 0, 14, 0, -1, 0, 0, -1, -1, 0, 0, -1, 0, 0);
        Due.due("25 four times more, then 3, 2, 1 of word 5's parts", x.way(0, 0, 13, 0, 0), 28);
        Due.rule(x, 1, "out e=2");
        for (int i = 0; i < 60; i++) {
            x.item(0, i, -1);
        }
        Due.due("25 a whole row", x.way(0, 0, 13, 0, 1), 160);
        Due.due("25 part of one", x.way(0, 59, 13, 0, 1), 101);
    }

    private static void trace(HeardWords x, String call, int... bodies) {
        Due.due(call + " count", x.count(4), bodies.length);
        for (int i = 0; i < bodies.length && i < 20; i++) {
            Due.due(call + " trace " + i, x.trace(i), bodies[i]);
        }
        Due.due(call + " trace beyond", x.trace(bodies.length), -1);
        Due.due(call + " trace below", x.trace(-1), -1);
    }

    private static void act() {
        HeardWords x = new HeardWords();
        for (int kind = 0; kind < 7; kind++) {
            x.word(kind, 7 - kind, 0);
        }
        Due.due("26 WORD hears", x.act(0, 0, 9), 9);
        trace(x, "27 WORD hears", 10);
        Due.due("26 WORD keeps", x.act(0, 1, 9), 9 - 7);
        trace(x, "27 WORD keeps", 11, 10);
        Due.due("26 WORD tells", x.act(0, 2, 9), 2 * (9 - 7));
        trace(x, "27 WORD tells", 12, 11, 10);
        Due.due("26 SAID hears", x.act(1, 0, 9), 9 + 1);
        Due.due("26 SAID keeps", x.act(1, 1, 9), 9 + 1 - 6 ^ 5);
        trace(x, "27 SAID keeps", 20, 11, 10);
        Due.due("26 WRITTEN hears", x.act(2, 0, 9), 27 + 2);
        trace(x, "27 WRITTEN hears", 30, 10);
        Due.due("26 WRITTEN tells", x.act(2, 2, 9), 2 * (27 + 2 - 5 ^ 5) + (3 + 2 - 5 ^ 5));
        trace(x, "27 WRITTEN tells", 31, 12, 20, 11, 30, 10, 20, 11, 30, 10);
        Due.due("26 FOUND hears", x.act(3, 0, 9), -(9 + 3));
        trace(x, "27 FOUND hears", 40, 10);
        Due.due("26 FOUND keeps", x.act(3, 1, 9), -(9 + 3) - 4);
        trace(x, "27 FOUND keeps", 11, 40, 10);
        Due.due("26 ACT tells", x.act(4, 2, 9), 2 * (9 - 4 + 4 - 3));
        trace(x, "27 ACT tells", 50, 12, 11, 10);
        Due.due("26 COPY keeps", x.act(5, 1, 9), (27 + 5 - 2 ^ 5) + (6 + 5));
        trace(x, "27 COPY keeps", 60, 20, 11, 30, 10, 30, 10);
        int kept = (27 + 5 - 2 ^ 5) + (6 + 5);
        int keptOfOne = (3 + 5 - 2 ^ 5) + (6 + 5);
        Due.due("26 COPY tells", x.act(5, 2, 9), 2 * kept + keptOfOne);
        trace(x, "27 COPY tells", 31, 12, 60, 20, 11, 30, 10, 30, 10, 60, 20, 11, 30, 10, 30, 10);
        Due.due("26 TOLD hears", x.act(6, 0, 9), 9 + 6 ^ 1);
        trace(x, "27 TOLD hears", 71, 10);
        int told = (9 + 6 ^ 1) - 1 ^ 5;
        Due.due("26 TOLD keeps", x.act(6, 1, 9), told);
        Due.due("26 TOLD tells", x.act(6, 2, 9), told - 2 * told);
        trace(x, "27 TOLD tells", 70, 20, 11, 71, 10, 12, 20, 11, 71, 10);
        Due.due("26 wraps", x.act(2, 0, Integer.MAX_VALUE), Integer.MAX_VALUE * 3 + 2);
        Due.due("26 wraps", x.act(3, 0, Integer.MAX_VALUE - 2), Integer.MIN_VALUE);
        Due.due("26 wraps", x.act(4, 2, Integer.MIN_VALUE), 2 * (Integer.MIN_VALUE - 3));
    }

    private static void actWrong() {
        HeardWords x = new HeardWords();
        Due.due("26 no words", x.act(0, 0, 5), 0);
        x.word(0, 0, 0);
        x.act(0, 1, 5);
        trace(x, "27 before", 11, 10);
        Due.due("26 act", x.act(0, 3, 5), 0);
        trace(x, "27 no trace then");
        x.act(0, 1, 5);
        Due.due("26 act", x.act(0, -1, 5), 0);
        trace(x, "27 no trace then");
        x.act(0, 1, 5);
        Due.due("26 word", x.act(1, 0, 5), 0);
        trace(x, "27 no trace then");
        x.act(0, 1, 5);
        Due.due("26 word", x.act(-1, 0, 5), 0);
        trace(x, "27 no trace then");
    }

    private static void traceKept() {
        HeardWords x = new HeardWords();
        x.word(5, 1, 0);
        x.act(0, 2, 1);
        Due.due("27 the last", x.trace(15), 10);
        Due.due("27 beyond", x.trace(16), -1);
        x.act(0, 0, 1);
        Due.due("27 of the latest alone", x.trace(2), -1);
        Due.due("27 far", x.trace(Integer.MAX_VALUE), -1);
        Due.due("27 far", x.trace(Integer.MIN_VALUE), -1);
        x.heard(0, 0, 0);
        x.count(4);
        Due.due("27 other calls leave it", x.trace(1), 10);
    }

    private static void taken() {
        HeardWords x = new HeardWords();
        String[] under = {"0", "01", "012", "03", "04", "0125", "016"};
        for (int kind = 0; kind < 7; kind++) {
            x.word(kind, 0, 0);
            for (int k = 0; k < 7; k++) {
                boolean is = under[kind].indexOf('0' + k) >= 0;
                Due.due("28 " + kind + " taken for " + k, x.taken(kind, k), is ? kind : -12);
            }
        }
        Due.due("28 k", x.taken(0, 7), -2);
        Due.due("28 k", x.taken(0, -1), -2);
        Due.due("28 BAD ahead of NOTHING", x.taken(9, 7), -2);
        Due.due("28 nothing", x.taken(7, 0), -11);
        Due.due("28 nothing", x.taken(-1, 6), -11);
    }

    private static void count() {
        HeardWords x = new HeardWords();
        x.word(2, 0, 0);
        x.word(2, 0, 0);
        x.word(2, 0, 0);
        Due.rule(x, 1, "out k=1");
        Due.rule(x, 0, "out k=1");
        Due.rule(x, 1, "out k=1");
        Due.rule(x, 0, "out k=1");
        Due.rule(x, 0, "out k=1");
        Due.rule(x, 0, "faulty");
        x.feed(0, 4);
        x.feed(0, 2);
        x.act(0, 1, 0);
        Due.due("29 words", x.count(0), 3);
        Due.due("29 rules", x.count(1), 5);
        Due.due("29 bytes", x.count(2), 6);
        Due.due("29 rules of land 0", x.count(3), 3);
        Due.due("29 bodies", x.count(4), 4);
        HeardWords y = new HeardWords();
        Due.rule(y, 0, "out k=1");
        Due.due("29 one rule of land 0", y.count(3), 1);
        Due.due("29 what", x.count(5), -2);
        Due.due("29 what", x.count(-1), -2);
    }

    private static void tape() {
        HeardWords x = new HeardWords();
        Due.due("30 tape", x.tape(6, 0, 1), -1);
        Due.due("30 tape", x.tape(-1, 9, 99), -1);
        Due.due("30 sort", x.tape(0, 5, 1), -2);
        Due.due("30 sort", x.tape(0, -2, 1), -2);
        Due.due("30 sort ahead of SIZE", x.tape(0, 5, -1), -2);
        Due.due("30 above 60", x.tape(0, 0, 61), -2);
        Due.due("30 far above 60", x.tape(0, 4, Integer.MAX_VALUE), -2);
        Due.due("30 below 0", x.tape(0, 0, -1), -14);
        Due.due("30 far below 0", x.tape(0, 4, Integer.MIN_VALUE), -14);
        Due.due("30 nothing yet", x.item(0, 0, 1), -11);
        Due.due("30 none", x.tape(5, 3, 0), 1);
        Due.due("30 no place", x.item(5, 0, 1), -13);
        Due.due("30 sixty", x.tape(5, 3, 60), 1);
        Due.due("30 the last place", x.item(5, 59, 8), 1);
        Due.due("30 above leaves it", x.tape(5, 3, 61), -2);
        Due.due("30 below leaves it", x.tape(5, 3, -5), -14);
        Due.due("30 it stands", x.read(5, 59), 8);
        Due.due("30 anew", x.tape(5, 3, 60), 1);
        Due.due("30 all 0", x.read(5, 59), 0);
        Due.due("30 nothing, whatever n is", x.tape(5, -1, 99), 1);
        Due.due("30 nothing is there", x.read(5, 0), HeardWords.NO);
        Due.due("30 nothing, whatever n is", x.tape(5, -1, -99), 1);
        Due.due("30 shorter", x.tape(5, 1, 2), 1);
        Due.due("30 no place", x.read(5, 2), HeardWords.NO);
    }

    private static void item(int sort, long v, long want) {
        HeardWords x = new HeardWords();
        x.tape(1, sort, 3);
        Due.due("31 item of sort " + sort, x.item(1, 2, v), 1);
        Due.due("32 item of sort " + sort + " from " + v, x.read(1, 2), want);
        Due.due("32 beside it", x.read(1, 1), 0);
    }

    private static void item() {
        long[] values = {0, 1, -1, 2, 127, 128, 255, 256, 32767, 32768, 65536, 1L << 31, 1L << 32, 1L << 63, 0x123456789ABCDEFL};
        for (long v : values) {
            item(BYTES, v, (byte) v);
            item(SHORTS, v, (short) v);
            item(INTS, v, (int) v);
            item(LONGS, v, v);
            item(BOOLEANS, v, v == 0 ? 0 : 1);
        }
        HeardWords x = new HeardWords();
        Due.due("31 tape", x.item(6, 0, 1), -1);
        Due.due("31 tape", x.item(-1, 0, 1), -1);
        Due.due("31 nothing", x.item(0, 0, 1), -11);
        Due.due("31 NOTHING ahead of PLACE", x.item(0, -1, 1), -11);
        x.tape(0, 0, 4);
        Due.due("31 place", x.item(0, 4, 1), -13);
        Due.due("31 place", x.item(0, -1, 1), -13);
        Due.due("31 place", x.item(0, Integer.MIN_VALUE, 1), -13);
        Due.due("31 the last place", x.item(0, 3, 1), 1);
        Due.due("31 again", x.item(0, 3, 2), 1);
        Due.due("32 again", x.read(0, 3), 2);
    }

    private static void read() {
        HeardWords x = new HeardWords();
        Due.due("32 tape", x.read(6, 0), HeardWords.NO);
        Due.due("32 tape", x.read(-1, 0), HeardWords.NO);
        Due.due("32 nothing", x.read(0, 0), HeardWords.NO);
        x.tape(0, 3, 2);
        Due.due("32 place", x.read(0, 2), HeardWords.NO);
        Due.due("32 place", x.read(0, -1), HeardWords.NO);
        Due.due("32 place", x.read(0, Integer.MAX_VALUE), HeardWords.NO);
        Due.due("32 all 0", x.read(0, 1), 0);
    }

    private static void row(HeardWords x, String call, int tape, int... want) {
        for (int i = 0; i < want.length; i++) {
            Due.due("33 " + call + " at " + i, x.read(tape, i), want[i]);
        }
        Due.due("33 " + call + " no more", x.read(tape, want.length), HeardWords.NO);
    }

    private static void shift() {
        HeardWords x = new HeardWords();
        x.tape(0, SHORTS, 5);
        x.tape(1, SHORTS, 3);
        write(x, 0, 0, 1, 2, 3, 4, 5);
        Due.due("33 to another", x.shift(0, 2, 1, 0, 3), 3);
        row(x, "to another", 1, 3, 4, 5);
        row(x, "as it was", 0, 1, 2, 3, 4, 5);
        Due.due("33 onwards", x.shift(0, 0, 0, 1, 4), 4);
        row(x, "onwards", 0, 1, 1, 2, 3, 4);
        Due.due("33 back", x.shift(0, 1, 0, 0, 4), 4);
        row(x, "back", 0, 1, 2, 3, 4, 4);
        Due.due("33 none", x.shift(0, 5, 1, 3, 0), 0);
        row(x, "none", 1, 3, 4, 5);
        Due.due("33 itself", x.shift(0, 0, 0, 0, 5), 5);
        row(x, "itself", 0, 1, 2, 3, 4, 4);
        for (int sort = 0; sort < 5; sort++) {
            x.tape(2, sort, 2);
            x.tape(3, sort, 2);
            x.item(2, 1, 1);
            Due.due("33 sort", x.shift(2, 1, 3, 0, 1), 1);
            row(x, "sort", 3, 1, 0);
        }
    }

    private static void shiftWrong() {
        HeardWords x = new HeardWords();
        x.tape(0, SHORTS, 5);
        x.tape(1, SHORTS, 3);
        x.tape(2, INTS, 5);
        write(x, 0, 0, 1, 2, 3, 4, 5);
        Due.due("33 tapes", x.shift(6, 0, 0, 0, 1), -1);
        Due.due("33 tapes", x.shift(0, 0, 6, 0, 1), -1);
        Due.due("33 tapes", x.shift(-1, 0, 0, 0, 1), -1);
        Due.due("33 tapes", x.shift(4, 0, -1, 0, 1), -1);
        Due.due("33 from nothing", x.shift(4, 0, 0, 0, 1), -11);
        Due.due("33 to nothing", x.shift(0, 0, 4, 0, 1), -11);
        Due.due("33 NOTHING ahead of PLACE", x.shift(0, -1, 4, 0, -1), -11);
        Due.due("33 unlike sorts", x.shift(0, 0, 2, 0, 1), -12);
        Due.due("33 CAST ahead of PLACE", x.shift(0, 0, 2, 0, -1), -12);
        int[][] places = {{0, 0, -1}, {-1, 0, 1}, {0, -1, 1}, {0, 0, 4}, {3, 0, 3}, {0, 2, 2}, {6, 0, 0}, {0, 4, 0},
            {Integer.MAX_VALUE, 0, 1}, {0, Integer.MAX_VALUE, 1}, {1, 1, Integer.MAX_VALUE}, {Integer.MIN_VALUE, 0, 0}};
        for (int[] p : places) {
            Due.due("33 place " + p[0] + " " + p[1] + " " + p[2], x.shift(0, p[0], 1, p[1], p[2]), -13);
        }
        row(x, "nothing has come", 1, 0, 0, 0);
    }
}

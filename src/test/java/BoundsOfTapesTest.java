/** The boundary cases of promises 25 to 33, on both sides of each. */
public final class BoundsOfTapesTest {
    private static final int BYTES = 0, SHORTS = 1, INTS = 2, LONGS = 3, BOOLEANS = 4;

    private BoundsOfTapesTest() {
    }

    public static void main(String[] args) {
        wayNumbers();
        wayOfSorts();
        wayToTheEndOfTheRow();
        wayOfWholeRow();
        wayWithoutRules();
        wayFromBelowZero();
        wayTellsClauses();
        wayAtEachEnd();
        wayIsAskedAnew();
        actNumbers();
        actsWrapAround();
        traceNumbers();
        traceOfEachAct();
        takenNumbers();
        countNumbers();
        countsFromNoneToAll();
        tapeNumbers();
        tapeSizes();
        itemNumbers();
        itemsWrapAround();
        readNumbers();
        shiftNumbers();
        shiftSorts();
        shiftStretches();
        shiftOntoItself();
        shiftOfTheWholeTape();
        Due.finish();
    }

    private static void write(HeardWords x, int tape, int from, int... row) {
        for (int i = 0; i < row.length; i++) {
            Due.due("31 written", x.item(tape, from + i, row[i]), 1);
        }
    }

    // ---- 25: way

    private static void wayNumbers() {
        HeardWords x = Bounds.words(0, 14);
        for (int i = 0; i < 10; i++) {
            Bounds.rule(x, 1, "out k=0;in k=0");
        }
        x.tape(5, BYTES, 10);
        for (int none : Bounds.outside(6)) {
            Due.due("25 no tape " + none, x.way(none, 0, 0, 0, 0), Bounds.NONE);
        }
        for (int none : Bounds.outside(14)) {
            Due.due("25 no word " + none, x.way(5, 0, none, 0, 0), Bounds.NONE);
        }
        for (int none : Bounds.outside(4)) {
            Due.due("25 no end " + none, x.way(5, 0, 0, none, 0), Bounds.NONE);
        }
        for (int none : Bounds.outside(2)) {
            Due.due("25 no land " + none, x.way(5, 0, 0, 0, none), Bounds.NONE);
        }
        for (int i = 0; i < 10; i++) {
            Due.due("25 ahead of item " + i, x.way(5, 0, 13, 3, 1), i);
            x.item(5, i, 1);
        }
        Due.due("25 the last of all", x.way(5, 0, 13, 3, 1), 10);
        Due.due("25 the last item alone", x.way(5, 9, 13, 3, 1), 101);
    }

    private static void wayOfSorts() {
        HeardWords x = Bounds.words(0, 1);
        Bounds.rule(x, 0, "out k=0");
        for (int sort = BYTES; sort <= BOOLEANS; sort++) {
            for (int size = 0; size <= 60; size += 60) {
                x.tape(2, sort, size);
                int due = sort != BYTES ? Bounds.CAST : size == 0 ? 100 : 0;
                Due.due("25 sort " + sort + " of " + size, x.way(2, 0, 0, 0, 0), due);
                Due.due("25 a place beyond, sort " + sort, x.way(2, 60, 0, 0, 0), sort == BYTES ? 100 : Bounds.CAST);
                Due.due("25 NONE ahead of CAST", x.way(2, 0, 1, 0, 0), Bounds.NONE);
            }
        }
        x.tape(2, -1, 0);
        Due.due("25 nothing is there", x.way(2, 0, 0, 0, 0), 100);
        Due.due("25 nothing is there, at place 3", x.way(2, 3, 0, 0, 0), 100);
    }

    /** Two words and two rules: four numbers, from each place of a row on. */
    private static void wayToTheEndOfTheRow() {
        for (int size = 0; size <= 6; size++) {
            HeardWords x = Bounds.words(6, 2);
            x.hold(1, 0);
            Bounds.rule(x, 0, "out b=1;in k=6");
            Bounds.rule(x, 0, "in k=6;out b=0");
            x.tape(0, BYTES, size);
            int[] way = {1, -1, -1, 0};
            for (int from = 0; from <= size + 1; from++) {
                for (int k = 0; k < 4 && from + k < size; k++) {
                    x.item(0, from + k, way[k]);
                }
                int there = Math.max(0, Math.min(4, size - from));
                int due = there == 4 ? 4 : 100 + there;
                Due.due("25 from " + from + " of " + size, x.way(0, from, 1, 0, 0), due);
            }
            for (int wrong = 0; wrong < 4 && wrong < size; wrong++) {
                for (int k = 0; k < 4 && k < size; k++) {
                    x.item(0, k, k == wrong ? 5 : way[k]);
                }
                Due.due("25 wrong at " + wrong + " of " + size, x.way(0, 0, 1, 0, 0), wrong);
            }
        }
    }

    /** Six words with ten rules take all sixty places, seven words more. */
    private static void wayOfWholeRow() {
        HeardWords x = Bounds.words(6, 7);
        for (int i = 1; i < 7; i++) {
            x.hold(i, i - 1);
        }
        for (int i = 0; i < 10; i++) {
            Bounds.rule(x, 0, "out k=1;in k=1");
        }
        x.tape(0, BYTES, 60);
        for (int i = 0; i < 60; i++) {
            x.item(0, i, -1);
        }
        Due.due("25 sixty", x.way(0, 0, 5, 0, 0), 60);
        Due.due("25 sixty from 1 on", x.way(0, 1, 5, 0, 0), 159);
        Due.due("25 seventy", x.way(0, 0, 6, 0, 0), 160);
        Due.due("25 fifty from 10 on", x.way(0, 10, 4, 0, 0), 50);
        Due.due("25 fifty from 11 on", x.way(0, 11, 4, 0, 0), 149);
        Due.due("25 the last place", x.way(0, 59, 0, 0, 0), 101);
        Due.due("25 behind it", x.way(0, 60, 0, 0, 0), 100);
        x.item(0, 59, 0);
        Due.due("25 the sixtieth isn't right", x.way(0, 0, 5, 0, 0), 59);
        Due.due("25 nor is it of seventy", x.way(0, 0, 6, 0, 0), 59);
        x.tape(0, BYTES, 59);
        for (int i = 0; i < 59; i++) {
            x.item(0, i, -1);
        }
        Due.due("25 fifty-nine of sixty", x.way(0, 0, 5, 0, 0), 159);
    }

    private static void wayWithoutRules() {
        HeardWords x = Bounds.words(0, 1);
        Bounds.rule(x, 1, "out k=0");
        x.tape(0, BYTES, 3);
        x.tape(1, BYTES, 0);
        for (int tape = 0; tape < 3; tape++) {
            for (int i : new int[] {0, 2, 3, 60, Bounds.MAX}) {
                Due.due("25 no number must be told, tape " + tape + " at " + i, x.way(tape, i, 0, 0, 0), 0);
                int due = tape == 0 && i < 3 ? 0 : 100;
                Due.due("25 one must be told, tape " + tape + " at " + i, x.way(tape, i, 0, 0, 1), due);
            }
        }
        x.tape(2, LONGS, 3);
        Due.due("25 CAST ahead of that", x.way(2, 0, 0, 0, 0), Bounds.CAST);
    }

    private static void wayFromBelowZero() {
        HeardWords x = Bounds.words(0, 1);
        Bounds.rule(x, 0, "out k=1");
        Bounds.rule(x, 0, "out k=1");
        x.tape(0, BYTES, 60);
        write(x, 0, 0, -1, -1);
        write(x, 0, 58, -1, -1);
        for (int i : Bounds.below()) {
            Due.due("25 from " + i, x.way(0, i, 0, 0, 0), 100);
        }
        Due.due("25 from 0", x.way(0, 0, 0, 0, 0), 2);
        Due.due("25 from 58", x.way(0, 58, 0, 0, 0), 2);
        Due.due("25 from 59", x.way(0, 59, 0, 0, 0), 101);
        Due.due("25 from the last number", x.way(0, Bounds.MAX, 0, 0, 0), 100);
        Due.due("25 from the one ahead of it", x.way(0, Bounds.MAX - 1, 0, 0, 0), 100);
    }

    private static void wayTellsClauses() {
        String[] rules = {"in k=0;out k=0", "out k=0;out k=0;out k=0;out k=0;out k=0;in k=0", "in k=0", "out k=0", "may k=0;need 0 k=0",
            "in k=1;in k=0;in k=0;out k=1;out k=0", "out k=1;in k=0"};
        int[] due = {0, 5, -1, -1, -1, 1, -1};
        for (int r = 0; r < rules.length; r++) {
            HeardWords x = Bounds.words(0, 1);
            Bounds.rule(x, 0, rules[r]);
            x.tape(0, BYTES, 1);
            for (int told = -3; told < 8; told++) {
                x.item(0, 0, told);
                Due.due("25 " + told + " for " + rules[r], x.way(0, 0, 0, 0, 0), told == due[r] ? 1 : 0);
            }
        }
    }

    private static void wayAtEachEnd() {
        for (int end = 0; end < 4; end++) {
            HeardWords x = Bounds.words(6, 2);
            x.hold(1, 0);
            Bounds.rule(x, 0, "out k=6;in e=0;in e=1;in e=2;in e=3");
            x.tape(0, BYTES, 3);
            write(x, 0, 0, end + 1, 1, 9);
            Due.due("25 to end " + end + " with its part to end 0", x.way(0, 0, 1, end, 0), end == 1 ? 1 : 2);
            write(x, 0, 1, end + 1);
            Due.due("25 the part isn't offered to end " + end, x.way(0, 0, 1, end, 0), end == 0 ? 2 : 1);
        }
    }

    /** A way that ends early leaves nothing to the next one, and it is that of what stands now. */
    private static void wayIsAskedAnew() {
        HeardWords x = Bounds.words(2, 5);
        for (int part = 0; part < 4; part++) {
            x.hold(4, part);
        }
        Bounds.rule(x, 0, "out k=2;in s=0|b=0");
        x.tape(0, BYTES, 6);
        write(x, 0, 0, -1, 1, -1, -1, -1, -1);
        Due.due("25 all five", x.way(0, 0, 4, 0, 0), 5);
        Due.due("25 the first isn't right", x.way(0, 1, 4, 0, 0), 0);
        Due.due("25 one alone", x.way(0, 1, 0, 0, 0), 1);
        Due.due("25 three of five", x.way(0, 3, 4, 0, 0), 1);
        Due.due("25 one alone", x.way(0, 2, 3, 0, 0), 1);
        Due.due("25 beyond the row", x.way(0, 5, 4, 0, 0), 101);
        Due.due("25 all five", x.way(0, 0, 4, 0, 0), 5);
        x.show(1);
        Due.due("25 now the first isn't right", x.way(0, 0, 4, 0, 0), 0);
        Due.due("25 now the second is", x.way(0, 1, 4, 0, 0), 1);
    }

    // ---- 26, 27: act, trace

    private static void actNumbers() {
        HeardWords x = Bounds.words(0, 14);
        for (int none : Bounds.outside(14)) {
            x.act(13, 0, 5);
            Due.due("26 no word " + none, x.act(none, 0, 5), 0);
            Due.due("29 nothing ran", x.count(4), 0);
            Due.due("27 no trace", x.trace(0), Bounds.NONE);
        }
        for (int none : Bounds.outside(3)) {
            x.act(13, 2, 5);
            Due.due("26 no act " + none, x.act(13, none, 5), 0);
            Due.due("29 nothing ran", x.count(4), 0);
            Due.due("27 no trace", x.trace(0), Bounds.NONE);
        }
        Due.due("26 the first word", x.act(0, 0, 5), 5);
        Due.due("26 the last word", x.act(13, 0, 5), 18);
        Due.due("26 the last act", x.act(13, 2, 5), 26);
    }

    private static void actsWrapAround() {
        int[] xs = {Bounds.MAX, Bounds.MIN, Bounds.MAX - 6, Bounds.MIN + 6, Bounds.MAX / 3, Bounds.MAX / 3 + 1, Bounds.MIN / 3,
            Bounds.MIN / 3 - 1, 1 << 30, (1 << 30) - 7, -(1 << 30), 0, 1, -1, 715827882};
        for (int v : xs) {
            HeardWords x = new HeardWords();
            Model m = new Model();
            for (int kind = 0; kind < 7; kind++) {
                x.word(kind, 7 - kind, 0);
                m.word(kind, 7 - kind, 0);
            }
            for (int kind = 0; kind < 7; kind++) {
                for (int act = 0; act < 3; act++) {
                    Due.due("26 kind " + kind + " act " + act + " of " + v, x.act(kind, act, v), m.act(kind, act, v));
                }
            }
            Due.due("26 x + i wraps", x.act(6, 0, v), v + 6 ^ 1);
            Due.due("26 x * 3 wraps", x.act(2, 0, v), v * 3 + 2);
            Due.due("26 - wraps", x.act(3, 0, v), -(v + 3));
            Due.due("26 x - i wraps", x.act(4, 2, v), (v - 4 + 4 - 3) * 2);
            Due.due("26 * 2 wraps", x.act(0, 2, v), (v - 7) * 2);
        }
    }

    private static void traceNumbers() {
        HeardWords x = new HeardWords();
        x.word(5, 0, 0);
        for (int i : Bounds.below()) {
            Due.due("27 before any act " + i, x.trace(i), Bounds.NONE);
        }
        Due.due("27 before any act", x.trace(0), Bounds.NONE);
        for (int act = 0; act < 3; act++) {
            x.act(0, act, 1);
            int ran = x.count(4);
            Due.due("27 so many ran", ran, act == 0 ? 2 : act == 1 ? 7 : 16);
            Due.due("27 the first", x.trace(0), act == 0 ? 30 : act == 1 ? 60 : 31);
            Due.due("27 the last", x.trace(ran - 1), 10);
            for (int i : new int[] {ran, ran + 1, 19, 20, 21, 32, 256, 65536, Bounds.MAX, -1, -2, -32, Bounds.MIN}) {
                Due.due("27 beyond " + i, x.trace(i), Bounds.NONE);
            }
        }
    }

    private static void traceOfEachAct() {
        HeardWords x = new HeardWords();
        Model m = new Model();
        for (int kind = 0; kind < 7; kind++) {
            x.word(kind, kind, 0);
            m.word(kind, kind, 0);
        }
        for (int kind = 0; kind < 7; kind++) {
            for (int act = 0; act < 3; act++) {
                x.act(kind, act, 7);
                m.act(kind, act, 7);
                Due.due("29 ran of kind " + kind + " act " + act, x.count(4), m.count(4));
                for (int i = 0; i <= m.count(4); i++) {
                    Due.due("27 kind " + kind + " act " + act + " at " + i, x.trace(i), m.trace(i));
                }
            }
        }
    }

    // ---- 28, 29: taken, count

    private static void takenNumbers() {
        HeardWords x = Bounds.words(6, 14);
        for (int bad : Bounds.outside(7)) {
            Due.due("28 no kind " + bad, x.taken(0, bad), Bounds.BAD);
            Due.due("28 BAD ahead of NOTHING " + bad, x.taken(14, bad), Bounds.BAD);
        }
        for (int none : Bounds.outside(14)) {
            Due.due("28 no word " + none, x.taken(none, 0), Bounds.NOTHING);
            Due.due("28 NOTHING ahead of CAST " + none, x.taken(none, 5), Bounds.NOTHING);
        }
        Due.due("28 the last word for its kind", x.taken(13, 6), 6);
        Due.due("28 the last word for one above", x.taken(13, 1), 6);
        Due.due("28 the last word for another", x.taken(13, 5), Bounds.CAST);
        HeardWords y = Bounds.words(1, 1);
        Due.due("28 one above taken for one under it", y.taken(0, 6), Bounds.CAST);
    }

    private static void countNumbers() {
        HeardWords x = new HeardWords();
        for (int bad : Bounds.outside(5)) {
            Due.due("29 no what " + bad, x.count(bad), Bounds.BAD);
        }
    }

    private static void countsFromNoneToAll() {
        HeardWords x = new HeardWords();
        for (int n = 0; n <= 14; n++) {
            Due.due("29 words", x.count(0), n);
            x.word(0, 0, 0);
        }
        Due.due("29 words are full", x.count(0), 14);
        for (int n = 0; n <= 10; n++) {
            Due.due("29 rules", x.count(1), n);
            Due.due("29 of land 0", x.count(3), n / 2);
            Bounds.rule(x, 1 - n % 2, "in k=0");
        }
        Due.due("29 rules are full", x.count(1), 10);
        Due.due("29 of land 0", x.count(3), 5);
        Due.due("29 the text stayed", x.count(2), 6);
        for (int n = 7; n <= 100; n++) {
            x.feed(0, 1);
            Due.due("29 bytes", x.count(2), n);
        }
        x.feed(0, 1);
        Due.due("29 bytes are full", x.count(2), 100);
    }

    // ---- 30: tape

    private static void tapeNumbers() {
        HeardWords x = new HeardWords();
        for (int none : Bounds.outside(6)) {
            Due.due("30 no tape " + none, x.tape(none, 0, 1), Bounds.NONE);
            Due.due("30 NONE ahead of BAD " + none, x.tape(none, 5, 61), Bounds.NONE);
            Due.due("30 NONE ahead of SIZE " + none, x.tape(none, 0, -1), Bounds.NONE);
            Due.due("30 NONE, to hold nothing " + none, x.tape(none, -1, 0), Bounds.NONE);
        }
        for (int tape = 0; tape < 6; tape++) {
            for (int bad : Bounds.outside(5)) {
                if (bad != -1) {
                    Due.due("30 no sort " + bad, x.tape(tape, bad, 1), Bounds.BAD);
                    Due.due("30 BAD ahead of SIZE " + bad, x.tape(tape, bad, -1), Bounds.BAD);
                }
            }
            Due.due("30 nothing is there", x.item(tape, 0, 1), Bounds.NOTHING);
        }
    }

    private static void tapeSizes() {
        for (int sort = BYTES; sort <= BOOLEANS; sort++) {
            HeardWords x = new HeardWords();
            for (int tape = 0; tape < 6; tape++) {
                for (int n : new int[] {0, 1, 59, 60}) {
                    Due.due("30 sort " + sort + " of " + n, x.tape(tape, sort, n), 1);
                    Due.due("30 its last place", x.item(tape, n - 1, 1), n == 0 ? Bounds.PLACE : 1);
                    Due.due("30 the one behind it", x.item(tape, n, 1), Bounds.PLACE);
                }
                Due.due("30 61 of sort " + sort, x.tape(tape, sort, 61), Bounds.BAD);
                Due.due("30 most of sort " + sort, x.tape(tape, sort, Bounds.MAX), Bounds.BAD);
                for (int n : Bounds.below()) {
                    Due.due("30 " + n + " of sort " + sort, x.tape(tape, sort, n), Bounds.SIZE);
                }
                Due.due("30 what was there stays", x.read(tape, 59), 1);
                Due.due("30 the same again", x.tape(tape, sort, 60), 1);
                Due.due("30 all 0", x.read(tape, 59), 0);
            }
            for (int n : new int[] {0, 60, 61, -1, Bounds.MIN, Bounds.MAX}) {
                x.tape(0, sort, 3);
                Due.due("30 holds nothing, whatever " + n + " is", x.tape(0, -1, n), 1);
                Due.due("30 nothing is there", x.item(0, 0, 1), Bounds.NOTHING);
                Due.due("30 nothing of it", x.read(0, 0), HeardWords.NO);
            }
            Due.due("30 another tape is as it was", x.item(1, 59, 1), 1);
        }
    }

    // ---- 31, 32: item, read

    private static void itemNumbers() {
        HeardWords x = new HeardWords();
        for (int none : Bounds.outside(6)) {
            Due.due("31 no tape " + none, x.item(none, 0, 1), Bounds.NONE);
            Due.due("31 NONE ahead of PLACE " + none, x.item(none, -1, 1), Bounds.NONE);
        }
        for (int place : Bounds.outside(0)) {
            Due.due("31 NOTHING ahead of PLACE " + place, x.item(5, place, 1), Bounds.NOTHING);
        }
        for (int size : new int[] {0, 1, 7, 60}) {
            x.tape(5, LONGS, size);
            for (int place : Bounds.outside(size)) {
                Due.due("31 no place " + place + " of " + size, x.item(5, place, 1), Bounds.PLACE);
            }
            for (int i = 0; i < size; i++) {
                Due.due("31 place " + i + " of " + size, x.item(5, i, i + 1), 1);
            }
            for (int i = 0; i < size; i++) {
                Due.due("32 place " + i + " of " + size, x.read(5, i), i + 1);
            }
        }
    }

    private static void itemsWrapAround() {
        long[] bounds = {0, 1 << 7, 1 << 8, 1 << 15, 1 << 16, 1L << 31, 1L << 32, 1L << 62, Long.MIN_VALUE, 256 + (1L << 40)};
        for (long bound : bounds) {
            for (int near = -1; near <= 1; near++) {
                for (int sign = -1; sign <= 1; sign += 2) {
                    long v = sign * bound + near;
                    HeardWords x = new HeardWords();
                    long[] due = {(byte) v, (short) v, (int) v, v, v == 0 ? 0 : 1};
                    for (int sort = BYTES; sort <= BOOLEANS; sort++) {
                        x.tape(sort, sort, 3);
                        x.item(sort, 0, 1);
                        x.item(sort, 2, 1);
                        Due.due("31 " + v + " of sort " + sort, x.item(sort, 1, v), 1);
                        Due.due("32 " + v + " of sort " + sort, x.read(sort, 1), due[sort]);
                        Due.due("32 ahead of it", x.read(sort, 0), 1);
                        Due.due("32 behind it", x.read(sort, 2), 1);
                    }
                }
            }
        }
    }

    private static void readNumbers() {
        HeardWords x = new HeardWords();
        for (int none : Bounds.outside(6)) {
            Due.due("32 no tape " + none, x.read(none, 0), HeardWords.NO);
        }
        for (int sort = BYTES; sort <= BOOLEANS; sort++) {
            for (int size : new int[] {0, 1, 60}) {
                x.tape(0, sort, size);
                for (int place : Bounds.outside(size)) {
                    Due.due("32 no place " + place + " of " + size, x.read(0, place), HeardWords.NO);
                }
                if (size > 0) {
                    Due.due("32 the first of " + size, x.read(0, 0), 0);
                    Due.due("32 the last of " + size, x.read(0, size - 1), 0);
                }
            }
        }
        x.tape(0, -1, 0);
        Due.due("32 nothing is there", x.read(0, 0), HeardWords.NO);
    }

    // ---- 33: shift

    private static void shiftNumbers() {
        HeardWords x = new HeardWords();
        x.tape(5, INTS, 1);
        x.tape(0, LONGS, 1);
        for (int none : Bounds.outside(6)) {
            Due.due("33 no tape " + none, x.shift(none, 0, 5, 0, 1), Bounds.NONE);
            Due.due("33 no other tape " + none, x.shift(5, 0, none, 0, 1), Bounds.NONE);
            Due.due("33 NONE ahead of NOTHING " + none, x.shift(4, 0, none, 0, 1), Bounds.NONE);
            Due.due("33 NONE ahead of NOTHING " + none, x.shift(none, 0, 4, 0, 1), Bounds.NONE);
            Due.due("33 NONE ahead of PLACE " + none, x.shift(none, -1, 5, -1, -1), Bounds.NONE);
        }
        Due.due("33 from nothing", x.shift(4, 0, 5, 0, 1), Bounds.NOTHING);
        Due.due("33 to nothing", x.shift(5, 0, 4, 0, 1), Bounds.NOTHING);
        Due.due("33 nothing to nothing", x.shift(4, 0, 3, 0, 0), Bounds.NOTHING);
        Due.due("33 nothing to itself", x.shift(4, 0, 4, 0, 0), Bounds.NOTHING);
        Due.due("33 NOTHING ahead of PLACE", x.shift(4, -1, 5, -1, -1), Bounds.NOTHING);
        Due.due("33 CAST ahead of PLACE", x.shift(5, -1, 0, -1, -1), Bounds.CAST);
    }

    private static void shiftSorts() {
        for (int from = BYTES; from <= BOOLEANS; from++) {
            for (int to = BYTES; to <= BOOLEANS; to++) {
                HeardWords x = new HeardWords();
                x.tape(0, from, 2);
                x.tape(1, to, 2);
                x.item(0, 0, 1);
                Due.due("33 sort " + from + " to " + to, x.shift(0, 0, 1, 1, 1), from == to ? 1 : Bounds.CAST);
                Due.due("33 it came", x.read(1, 1), from == to ? 1 : 0);
                Due.due("33 none of " + from + " to " + to, x.shift(0, 0, 1, 0, 0), from == to ? 0 : Bounds.CAST);
            }
        }
    }

    /** Each stretch of a row of 3 to a row of 2. */
    private static void shiftStretches() {
        for (int i = -1; i <= 4; i++) {
            for (int j = -1; j <= 3; j++) {
                for (int n = -1; n <= 4; n++) {
                    HeardWords x = new HeardWords();
                    x.tape(0, BYTES, 3);
                    x.tape(1, BYTES, 2);
                    write(x, 0, 0, 1, 2, 3);
                    write(x, 1, 0, 8, 9);
                    boolean fits = i >= 0 && j >= 0 && n >= 0 && i + n <= 3 && j + n <= 2;
                    String call = "33 from " + i + " to " + j + " so many " + n;
                    Due.due(call, x.shift(0, i, 1, j, n), fits ? n : Bounds.PLACE);
                    for (int k = 0; k < 2; k++) {
                        boolean came = fits && k >= j && k < j + n;
                        Due.due(call + " at " + k, x.read(1, k), came ? i + k - j + 1 : 8 + k);
                    }
                }
            }
        }
        HeardWords x = new HeardWords();
        x.tape(0, BYTES, 3);
        x.tape(1, BYTES, 2);
        for (int far : new int[] {Bounds.MAX, Bounds.MAX - 1, Bounds.MIN, Bounds.MIN + 1, 1 << 30}) {
            Due.due("33 from " + far, x.shift(0, far, 1, 0, 1), Bounds.PLACE);
            Due.due("33 none from " + far, x.shift(0, far, 1, 0, 0), Bounds.PLACE);
            Due.due("33 to " + far, x.shift(0, 0, 1, far, 1), Bounds.PLACE);
            Due.due("33 none to " + far, x.shift(0, 0, 1, far, 0), Bounds.PLACE);
            Due.due("33 so many " + far, x.shift(0, 0, 1, 0, far), Bounds.PLACE);
            Due.due("33 from 1 so many " + far, x.shift(0, 1, 1, 1, far), Bounds.PLACE);
            Due.due("33 all of them " + far, x.shift(0, far, 1, far, far), Bounds.PLACE);
        }
    }

    /** Each stretch of a row of 5 onto each other place of it: as the items all were before. */
    private static void shiftOntoItself() {
        for (int i = 0; i < 5; i++) {
            for (int j = 0; j < 5; j++) {
                for (int n = 0; n <= 5; n++) {
                    HeardWords x = new HeardWords();
                    x.tape(3, INTS, 5);
                    write(x, 3, 0, 10, 11, 12, 13, 14);
                    boolean fits = Math.max(i, j) + n <= 5;
                    String call = "33 itself from " + i + " to " + j + " so many " + n;
                    Due.due(call, x.shift(3, i, 3, j, n), fits ? n : Bounds.PLACE);
                    for (int k = 0; k < 5; k++) {
                        boolean came = fits && k >= j && k < j + n;
                        Due.due(call + " at " + k, x.read(3, k), came ? 10 + i + k - j : 10 + k);
                    }
                }
            }
        }
    }

    private static void shiftOfTheWholeTape() {
        HeardWords x = new HeardWords();
        x.tape(0, LONGS, 60);
        x.tape(1, LONGS, 60);
        x.tape(2, LONGS, 59);
        x.tape(3, LONGS, 0);
        for (int i = 0; i < 60; i++) {
            x.item(0, i, Long.MAX_VALUE - i);
        }
        Due.due("33 sixty", x.shift(0, 0, 1, 0, 60), 60);
        Due.due("33 the first", x.read(1, 0), Long.MAX_VALUE);
        Due.due("33 the last", x.read(1, 59), Long.MAX_VALUE - 59);
        Due.due("33 sixty-one", x.shift(0, 0, 1, 0, 61), Bounds.PLACE);
        Due.due("33 sixty to fewer", x.shift(0, 0, 2, 0, 60), Bounds.PLACE);
        Due.due("33 fifty-nine", x.shift(0, 1, 2, 0, 59), 59);
        Due.due("33 the last of them", x.read(2, 58), Long.MAX_VALUE - 59);
        Due.due("33 none behind the last", x.shift(0, 60, 1, 60, 0), 0);
        Due.due("33 none farther", x.shift(0, 61, 1, 60, 0), Bounds.PLACE);
        Due.due("33 none of none", x.shift(3, 0, 3, 0, 0), 0);
        Due.due("33 none of none, farther", x.shift(3, 1, 3, 0, 0), Bounds.PLACE);
        Due.due("33 one of none", x.shift(3, 0, 0, 0, 1), Bounds.PLACE);
        Due.due("33 one to none", x.shift(0, 0, 3, 0, 1), Bounds.PLACE);
        Due.due("33 onwards by one", x.shift(1, 0, 1, 1, 59), 59);
        Due.due("33 the last is the one ahead of it", x.read(1, 59), Long.MAX_VALUE - 58);
        Due.due("33 the first stays", x.read(1, 0), Long.MAX_VALUE);
    }
}

/** The boundary cases of promises 11 to 16, on both sides of each. */
public final class BoundsOfHearingTest {
    private BoundsOfHearingTest() {
    }

    public static void main(String[] args) {
        numbers();
        heardAtEachEnd();
        heardDownToTheLastPart();
        aRuleOfAnotherLand();
        whyFromFirstToLast();
        whyGoesPartByPart();
        whyAtEachEnd();
        whyInLandOne();
        whyIsToldOnce();
        leastOfNone();
        leastOfTen();
        leastAmongSets();
        leastInLandOne();
        leastWithoutASet();
        rivals();
        endsFromNoneToAll();
        cutFromNoneToFour();
        cutOfAWordThatHoldsNone();
        cutAtEachEnd();
        left();
        openedOrState();
        openedFromNoneToAll();
        openedByOneHeardBefore();
        Due.finish();
    }

    private static void numbers() {
        HeardWords x = Bounds.words(0, 14);
        for (int none : Bounds.outside(14)) {
            Due.due("11 no word " + none, x.heard(none, 0, 0), Bounds.NONE);
            Due.due("12 no word " + none, x.why(none, 0, 0), Bounds.NONE);
            Due.due("13 no word " + none, x.least(none, 0, 0, 0), Bounds.NONE);
            Due.due("14 no word " + none, x.ends(none, 0), Bounds.NONE);
            Due.due("15 no word " + none, x.cut(none, 0, 0, 0), Bounds.NONE);
            Due.due("16 no word " + none, x.opened(none, 0), Bounds.NONE);
        }
        for (int none : Bounds.outside(4)) {
            Due.due("11 no end " + none, x.heard(0, none, 0), Bounds.NONE);
            Due.due("12 no end " + none, x.why(0, none, 0), Bounds.NONE);
            Due.due("13 no end " + none, x.least(0, none, 0, 0), Bounds.NONE);
            Due.due("15 no end " + none, x.cut(0, none, 0, 0), Bounds.NONE);
        }
        for (int none : Bounds.outside(2)) {
            Due.due("11 no land " + none, x.heard(0, 0, none), Bounds.NONE);
            Due.due("12 no land " + none, x.why(0, 0, none), Bounds.NONE);
            Due.due("13 no land " + none, x.least(0, 0, none, 0), Bounds.NONE);
            Due.due("13 no what " + none, x.least(0, 0, 0, none), Bounds.NONE);
            Due.due("14 no land " + none, x.ends(0, none), Bounds.NONE);
            Due.due("15 no land " + none, x.cut(0, 0, none, 0), Bounds.NONE);
            Due.due("15 no what " + none, x.cut(0, 0, 0, none), Bounds.NONE);
            Due.due("16 no land " + none, x.opened(0, none), Bounds.NONE);
        }
        lastNumbers(x);
    }

    private static void lastNumbers(HeardWords x) {
        Due.due("11 the last of all", x.heard(13, 3, 1), 1);
        Due.due("12 the last of all", x.why(13, 3, 1), Bounds.MISSING);
        Due.due("13 the last of all", x.least(13, 3, 1, 1), 1);
        Due.due("14 the last of all", x.ends(13, 1), 15);
        Due.due("15 the last of all", x.cut(13, 3, 1, 1), 0);
        Due.due("16 the last of all", x.opened(13, 1), 0);
    }

    // ---- 11: heard

    /** A word that holds one by another person: what keeps out either, to each end. */
    private static void heardAtEachEnd() {
        for (int end = 0; end < 4; end++) {
            for (int told = 0; told < 4; told++) {
                HeardWords x = Bounds.words(6, 2);
                x.hold(1, 0);
                Bounds.rule(x, 0, "out b=1&e=" + told);
                Bounds.rule(x, 1, "out b=0&e=" + told);
                Due.due("11 itself to " + end + " out of " + told, x.heard(1, end, 0), end == told ? 0 : 1);
                boolean partOut = told == 0 && end != 1;
                Due.due("11 its part with " + end + " out of " + told, x.heard(1, end, 1), partOut ? 0 : 1);
                Due.due("11 the part alone to " + end + " out of " + told, x.heard(0, end, 1), end == told ? 0 : 1);
            }
        }
    }

    private static void heardDownToTheLastPart() {
        for (int out = 0; out < 8; out++) {
            HeardWords x = Bounds.chain();
            Bounds.rule(x, 0, "out b=" + out);
            for (int word = 0; word < 14; word++) {
                Due.due("11 word " + word + " without " + out, x.heard(word, 0, 0), word < out ? 1 : 0);
                Due.due("11 word " + word + " to end 1", x.heard(word, 1, 0), word % 8 == out ? 0 : 1);
                Due.due("11 word " + word + " to end 3", x.heard(word, 3, 0), word < out ? 1 : 0);
            }
        }
    }

    private static void aRuleOfAnotherLand() {
        for (int land = 0; land < 2; land++) {
            HeardWords x = Bounds.words(0, 1);
            Bounds.rule(x, 1 - land, "out k=0");
            Due.due("11 no rule of its land", x.heard(0, 0, land), 1);
            Due.due("11 in the other land", x.heard(0, 0, 1 - land), 0);
            Bounds.rule(x, 1 - land, "in k=0");
            Due.due("11 an in of another rule", x.heard(0, 0, 1 - land), 0);
            Bounds.rule(x, land, "in k=0;out k=0");
            Due.due("11 an in of the same rule", x.heard(0, 0, land), 1);
        }
    }

    // ---- 12: why

    private static void whyFromFirstToLast() {
        for (int rule = 0; rule < 10; rule++) {
            HeardWords x = Bounds.chain();
            for (int i = 0; i < 10; i++) {
                Bounds.rule(x, 0, i < rule ? "out k=0" : "out b=0");
            }
            Due.due("12 word 0, rule " + rule, x.why(0, 0, 0), rule);
            Due.due("12 down to word 0", x.why(7, 0, 0), rule);
            Due.due("12 word 8", x.why(13, 0, 0), 800 + rule);
            Due.due("12 word 8 itself", x.why(8, 1, 0), 800 + rule);
            Due.due("12 heard to end 1", x.why(9, 1, 0), Bounds.MISSING);
            Due.due("12 heard", x.why(13, 0, 1), Bounds.MISSING);
        }
        HeardWords x = Bounds.chain();
        Bounds.rule(x, 0, "out b=5");
        Due.due("12 the last word", x.why(13, 0, 0), 1300);
        Due.due("12 the one ahead of it", x.why(12, 0, 0), 500);
        Due.due("12 none of its own parts", x.why(4, 0, 0), Bounds.MISSING);
    }

    /** 6 holds 5 and 4; 5 holds 3, 2; 4 holds 1, 0; 7 holds 6. */
    private static HeardWords tree() {
        HeardWords x = Bounds.words(2, 8);
        int[][] held = {{6, 5}, {6, 4}, {5, 3}, {5, 2}, {4, 1}, {4, 0}, {7, 6}};
        for (int[] h : held) {
            x.hold(h[0], h[1]);
        }
        return x;
    }

    private static void whyGoesPartByPart() {
        int[] order = {7, 6, 5, 3, 2, 4, 1, 0};
        for (int first = 0; first < order.length; first++) {
            for (int second = first; second < order.length; second++) {
                HeardWords x = tree();
                Bounds.rule(x, 0, "out b=" + order[second]);
                Bounds.rule(x, 0, "out b=" + order[first]);
                int rule = first == second ? 0 : 1;
                Due.due("12 " + order[first] + " ahead of " + order[second], x.why(7, 0, 0), 100 * order[first] + rule);
            }
        }
        HeardWords x = tree();
        Due.due("12 heard to the last part", x.why(7, 0, 0), Bounds.MISSING);
    }

    private static void whyAtEachEnd() {
        for (int end = 0; end < 4; end++) {
            for (int told = 0; told < 4; told++) {
                HeardWords x = tree();
                Bounds.rule(x, 1, "out b=7|b=2");
                Bounds.rule(x, 0, "out b=2&e=" + told);
                int due = told == 0 && end != 1 ? 201 : Bounds.MISSING;
                Due.due("12 a part's part to " + end + " out of " + told, x.why(7, end, 0), due);
                Bounds.rule(x, 0, "out b=7&e=" + told);
                Due.due("12 itself to " + end + " out of " + told, x.why(7, end, 0), end == told ? 702 : due);
            }
        }
    }

    private static void whyInLandOne() {
        HeardWords x = tree();
        Bounds.rule(x, 0, "out b=3");
        Bounds.rule(x, 1, "out b=1&s=2;may b=0;need 5 b=2");
        x.judge(2);
        x.show(32);
        Due.due("12 land 0", x.why(7, 0, 0), 300);
        Due.due("12 land 1", x.why(7, 0, 1), Bounds.MISSING);
        x.least(7, 0, 1, 0);
        x.opened(7, 1);
        Due.due("12 land 1 still", x.why(7, 0, 1), Bounds.MISSING);
        x.show(36);
        Due.due("12 an out that holds now", x.why(7, 0, 1), 101);
        x.show(0);
        Due.due("12 a need that isn't met now", x.why(7, 0, 1), 201);
        x.show(32);
        x.judge(1);
        Due.due("12 the judge keeps out now", x.why(7, 0, 1), 1);
    }

    /** A part that is come to twice is told where it is come to first. */
    private static void whyIsToldOnce() {
        HeardWords x = Bounds.words(2, 4);
        x.hold(2, 0);
        x.hold(3, 1);
        x.hold(3, 2);
        x.hold(3, 0);
        Bounds.rule(x, 0, "out b=0");
        Bounds.rule(x, 0, "out b=2");
        Due.due("12 the holder of a part ahead of the part", x.why(3, 0, 0), 201);
        HeardWords y = Bounds.words(2, 4);
        y.hold(2, 0);
        y.hold(3, 0);
        y.hold(3, 2);
        Bounds.rule(y, 0, "out b=0");
        Bounds.rule(y, 0, "out b=2");
        Due.due("12 the part ahead of its other holder", y.why(3, 0, 0), 0);
    }

    // ---- 13: least

    private static void least(String call, HeardWords x, int end, int land, int least, int rivals) {
        int word = x.count(0) - 1;
        Due.due("13 " + call, x.least(word, end, land, 0), least);
        Due.due("13 rivals: " + call, x.least(word, end, land, 1), rivals);
    }

    private static void leastOfNone() {
        HeardWords x = Bounds.words(0, 1);
        least("no rules", x, 0, 0, 0, 1);
        x.show(1023);
        least("all is shown", x, 3, 1, 0, 1);
        Bounds.rule(x, 0, "out !s=9");
        least("it is shown already", x, 0, 0, 0, 1);
        x.show(511);
        least("the last fact alone", x, 0, 0, 512, 1);
        Bounds.rule(x, 0, "out !s=0");
        least("one of the two is shown", x, 0, 0, 512, 1);
        x.show(0);
        least("the first and the last", x, 0, 0, 513, 1);
    }

    private static void leastOfTen() {
        for (int n = 0; n <= 10; n++) {
            HeardWords x = Bounds.words(0, 1);
            for (int fact = 0; fact < n; fact++) {
                if (fact < 5) {
                    Bounds.rule(x, 0, "need " + fact + " k=0");
                } else {
                    Bounds.rule(x, 0, "out !s=" + fact);
                }
            }
            least("needs " + n, x, 0, 0, (1 << n) - 1, 1);
            x.show(682);
            least("less those that are shown " + n, x, 0, 0, (1 << n) - 1 & 341, 1);
        }
    }

    private static void leastAmongSets() {
        HeardWords x = Bounds.words(0, 1);
        Bounds.rule(x, 0, "out k=0;in s=0&s=1;in s=2");
        least("the fewest, not the least as bits", x, 0, 0, 4, 1);
        HeardWords y = Bounds.words(0, 1);
        Bounds.rule(y, 0, "out k=0;in s=0&s=9;in s=7&s=8;in s=1&s=2&s=3");
        least("the least as bits, not with the least fact", y, 0, 0, 384, 2);
        HeardWords z = Bounds.words(0, 1);
        Bounds.rule(z, 0, "out k=0;in s=0&s=1&s=2;in s=3&s=4;in s=1&s=5;in s=9&!s=8");
        least("one", z, 0, 0, 512, 1);
        z.show(256);
        least("two", z, 0, 0, 24, 2);
        z.show(256 + 8);
        least("one beside what is shown", z, 0, 0, 16, 1);
        z.show(256 + 32 + 1);
        least("another one beside what is shown", z, 0, 0, 2, 1);
        HeardWords h = Bounds.words(0, 1);
        Bounds.rule(h, 0, "out k=0&(s=0|s=1)|!s=2;in s=3&s=4&s=2");
        least("a fact that harms is in none", h, 0, 0, 4, 1);
        h.show(1);
        least("what is shown can't be taken back", h, 0, 0, 28, 1);
    }

    private static void leastInLandOne() {
        HeardWords x = Bounds.words(6, 2);
        x.hold(1, 0);
        Bounds.rule(x, 0, "need 1 b=1;need 2 b=0&e=0");
        Bounds.rule(x, 1, "need 8 b=1;need 9 b=0&e=0");
        least("land 0", x, 0, 0, 6, 1);
        least("land 1", x, 0, 1, 768, 1);
        least("land 0 to end 1", x, 1, 0, 2, 1);
        least("land 1 to end 1", x, 1, 1, 256, 1);
        least("land 0 to end 2", x, 2, 0, 6, 1);
        least("land 1 to end 3", x, 3, 1, 768, 1);
        x.show(256);
        least("land 1 less what is shown", x, 0, 1, 512, 1);
    }

    private static void leastWithoutASet() {
        HeardWords x = Bounds.words(0, 1);
        Bounds.rule(x, 1, "may k=0&!s=3");
        least("the last way left", x, 0, 1, 8, 1);
        Bounds.rule(x, 1, "out s=3");
        least("no set", x, 0, 1, Bounds.MISSING, 0);
        x.judge(1);
        least("the judge lets in", x, 0, 1, 0, 1);
        x.show(8);
        least("no set by what is shown", x, 0, 1, Bounds.MISSING, 0);
        x.show(1023);
        least("no set, as all is shown", x, 0, 1, Bounds.MISSING, 0);
    }

    private static void rivals() {
        for (int n = 1; n <= 10; n++) {
            HeardWords x = Bounds.words(0, 1);
            StringBuilder any = new StringBuilder("s=9");
            for (int i = 1; i < n; i++) {
                any.append("|s=").append(9 - i);
            }
            Bounds.rule(x, 0, "out k=0;in " + any);
            least("any of " + n, x, 0, 0, 1 << 10 - n, n);
        }
        HeardWords x = Bounds.words(0, 1);
        for (int i = 0; i < 10; i += 2) {
            Bounds.rule(x, 0, "out !s=" + i + "&!s=" + (i + 1));
        }
        least("one of each two", x, 0, 0, 341, 32);
        x.show(1);
        least("of four twos", x, 0, 0, 340, 16);
    }

    // ---- 14: ends

    private static void endsFromNoneToAll() {
        for (int ends = 0; ends < 16; ends++) {
            HeardWords x = Bounds.words(6, 2);
            x.hold(1, 0);
            for (int end = 0; end < 4; end++) {
                if ((ends >> end & 1) == 0) {
                    Bounds.rule(x, 1, "out b=1&e=" + end);
                    Bounds.rule(x, 0, "out b=0&e=" + end);
                }
            }
            Due.due("14 itself to " + ends, x.ends(1, 1), ends);
            Due.due("14 a part to " + ends, x.ends(0, 0), ends);
            Due.due("14 with that part", x.ends(1, 0), (ends & 1) == 1 ? 15 : 2);
        }
    }

    // ---- 15: cut

    private static void cut(String call, HeardWords x, int end, int land, int cut, int left) {
        int word = x.count(0) - 1;
        Due.due("15 " + call, x.cut(word, end, land, 0), cut);
        Due.due("15 left: " + call, x.cut(word, end, land, 1), left);
    }

    private static void cutFromNoneToFour() {
        for (int cut = 0; cut < 16; cut++) {
            HeardWords x = new HeardWords();
            for (int i = 0; i < 4; i++) {
                x.word(0, i, 16 << i);
            }
            x.word(5, 4, 1 + 64 + 512);
            for (int i = 0; i < 4; i++) {
                x.hold(4, i);
                if ((cut >> i & 1) != 0) {
                    Bounds.rule(x, 1, "out b=" + i);
                }
            }
            cut("parts " + cut, x, 0, 1, cut, 577 - (cut >> 2 & 1) * 64);
            cut("in land 0 " + cut, x, 0, 0, 0, 577);
        }
    }

    private static void cutOfAWordThatHoldsNone() {
        HeardWords x = new HeardWords();
        x.word(2, 0, 1023);
        cut("nothing to cut", x, 0, 0, 0, 1023);
        Bounds.rule(x, 0, "out k=2&!e=3");
        cut("kept out itself", x, 0, 0, Bounds.MISSING, Bounds.MISSING);
        cut("to end 1", x, 1, 0, Bounds.MISSING, Bounds.MISSING);
        cut("to end 3", x, 3, 0, 0, 1023);
        HeardWords y = Bounds.words(4, 1);
        cut("shows nothing", y, 0, 0, 0, 0);
    }

    private static void cutAtEachEnd() {
        for (int end = 0; end < 4; end++) {
            HeardWords x = new HeardWords();
            x.word(0, 0, 2);
            x.word(6, 1, 4);
            x.word(2, 2, 15);
            x.hold(1, 0);
            x.hold(2, 1);
            Bounds.rule(x, 0, "out b=0&e=0");
            Bounds.rule(x, 1, "out b=1&!e=0");
            cut("a part's part to " + end, x, end, 0, end == 1 ? 0 : 1, end == 1 ? 15 : 11);
            cut("a part to no end but 0, " + end, x, end, 1, 0, 15);
            x.least(2, 0, 0, 0);
            Bounds.rule(x, 0, "may b=1;need 7 b=1");
            x.judge(4);
            x.show(128);
            cut("the same " + end, x, end, 0, end == 1 ? 0 : 1, end == 1 ? 15 : 11);
        }
    }

    /** What is left are own facts, less own facts of parts cut: not those of parts kept, nor of parts' parts. */
    private static void left() {
        HeardWords x = new HeardWords();
        x.word(0, 0, 1);
        x.word(6, 1, 2);
        x.word(0, 2, 4);
        x.word(2, 3, 1 + 2 + 4 + 8);
        x.hold(1, 0);
        x.hold(3, 1);
        x.hold(3, 2);
        Bounds.rule(x, 0, "out b=0");
        cut("the part's own facts", x, 0, 0, 1, 1 + 4 + 8);
        Bounds.rule(x, 0, "out b=2");
        cut("both parts' own facts", x, 0, 0, 3, 1 + 8);
        HeardWords y = new HeardWords();
        y.word(0, 0, 6);
        y.word(0, 1, 6);
        y.word(2, 2, 2);
        y.hold(2, 0);
        y.hold(2, 1);
        Bounds.rule(y, 0, "out b=0");
        cut("a fact that a part which is kept shows, too", y, 0, 0, 1, 0);
    }

    // ---- 16: opened

    private static void openedOrState() {
        HeardWords x = Bounds.words(6, 3);
        x.hold(1, 0);
        Bounds.rule(x, 0, "out b=0&e=0");
        Bounds.rule(x, 1, "out b=2&e=1");
        Due.due("16 kept out itself", x.opened(0, 0), Bounds.STATE);
        Due.due("16 by its part", x.opened(1, 0), Bounds.STATE);
        Due.due("16 heard", x.opened(2, 0), 0);
        Due.due("16 in land 1 heard", x.opened(0, 1), 0);
        Due.due("16 to end 0, if not to end 1", x.opened(2, 1), 0);
        for (int none : Bounds.outside(2)) {
            Due.due("16 NONE ahead of STATE " + none, x.opened(0, none), Bounds.NONE);
        }
    }

    private static void openedFromNoneToAll() {
        for (int fact = 0; fact < 10; fact++) {
            HeardWords x = new HeardWords();
            for (int i = 0; i < 14; i++) {
                x.word(0, i == 6 ? 1 : 0, i == 6 ? 1 << fact : 0);
            }
            Bounds.rule(x, 0, "need 4 b=0");
            Due.due("16 all thirteen by fact 4 alone " + fact, x.opened(6, 0), fact == 4 ? 16383 - 64 : 0);
            Bounds.rule(x, 1, "need 4 k=0");
            Due.due("16 land 1: it isn't heard", x.opened(6, 1), Bounds.STATE);
            x.show(16);
            Due.due("16 they are heard already " + fact, x.opened(6, 0), 0);
            Due.due("16 so it is in land 1 " + fact, x.opened(6, 1), 0);
        }
    }

    /** One is heard before, and it is by the same person as word 1, by another than word 2. */
    private static void openedByOneHeardBefore() {
        String[] opening = {"h=1", "h>0", "!h=0", "!h<1", "h=1&!h=2"};
        String[] others = {"h=0", "h<1", "h<2", "!h=1", "h>1", "h=2", "!h<2", "h=9", "h<0"};
        for (String test : opening) {
            Due.due("16 opened by " + test, openedBy(test), 2);
        }
        for (String test : others) {
            Due.due("16 not opened by " + test, openedBy(test), 0);
        }
    }

    private static int openedBy(String test) {
        HeardWords x = new HeardWords();
        x.word(0, 1, 1);
        x.word(1, 1, 0);
        x.word(1, 2, 0);
        Bounds.rule(x, 0, "out k=1&!(" + test + ")");
        return x.opened(0, 0);
    }
}

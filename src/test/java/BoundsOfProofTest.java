/** The boundary cases of promises 17 to 24, on both sides of each. */
public final class BoundsOfProofTest {
    private BoundsOfProofTest() {
    }

    public static void main(String[] args) {
        numbers();
        provedFromNoneToTen();
        provedRoundByRound();
        provedByWordsThatAreHeardToEndZero();
        neededNumbers();
        neededFromNoneToAll();
        neededWithWhatHoldsThem();
        neededInLandOne();
        planNumbers();
        planOfOneToFive();
        planPlaces();
        planOfTheLastWords();
        planIsTheFirst();
        planWithAndWithoutPlan();
        planTakesOwnFactsAlone();
        clashFromNoneToMost();
        silentFromNoneToAll();
        hangsFromNoneToAll();
        mostFromNoneToTheLast();
        besideFromNoneToAll();
        Due.finish();
    }

    private static void numbers() {
        HeardWords x = Bounds.words(0, 14);
        for (int i = 0; i < 10; i++) {
            Bounds.rule(x, i % 2, "may k=0");
        }
        x.judge(1023);
        for (int none : Bounds.outside(2)) {
            Due.due("17 no land " + none, x.proved(none), Bounds.NONE);
            Due.due("20 no land " + none, x.clash(0, 0, none), Bounds.NONE);
            Due.due("21 no land " + none, x.silent(0, none), Bounds.NONE);
        }
        for (int none : Bounds.outside(4)) {
            Due.due("20 no end " + none, x.clash(0, none, 0), Bounds.NONE);
            Due.due("21 no end " + none, x.silent(none, 0), Bounds.NONE);
            Due.due("24 no end " + none, x.beside(none, 0), Bounds.NONE);
        }
        for (int none : Bounds.outside(14)) {
            Due.due("20 no word " + none, x.clash(none, 0, 0), Bounds.NONE);
        }
        for (int none : Bounds.outside(10)) {
            Due.due("22 no rule " + none, x.hangs(none), Bounds.NONE);
        }
        for (int none : Bounds.outside(3)) {
            Due.due("24 no what " + none, x.beside(0, none), Bounds.NONE);
        }
        Due.due("17 the last of all", x.proved(1), 0);
        Due.due("20 the last of all", x.clash(13, 3, 1), 0);
        Due.due("21 the last of all", x.silent(3, 1), 0);
        Due.due("22 the last of all", x.hangs(9), 56);
        Due.due("24 the last of all", x.beside(3, 2), 16383);
    }

    // ---- 17: proved

    private static void provedFromNoneToTen() {
        for (int n = 0; n <= 10; n++) {
            HeardWords x = new HeardWords();
            for (int i = 0; i < n; i++) {
                x.word(0, 0, 1 << i);
            }
            int all = (1 << n) - 1;
            Due.due("17 facts " + n, x.proved(0), all);
            x.show(512);
            Due.due("17 with what is shown " + n, x.proved(1), all | 512);
            Bounds.rule(x, 0, "out k=0");
            Due.due("17 none is heard of " + n, x.proved(0), 512);
        }
    }

    /** Each fact but the first is asked for by the fact ahead of it: the last one comes in the tenth round. */
    private static void provedRoundByRound() {
        for (int missing = 0; missing <= 10; missing++) {
            HeardWords x = new HeardWords();
            for (int fact = 9; fact >= 0; fact--) {
                if (fact != missing) {
                    x.word(fact < 8 ? 0 : 3, fact % 8, 1 << fact);
                }
            }
            for (int fact = 1; fact < 10; fact++) {
                Bounds.rule(x, 0, "need " + (fact - 1) + " b=" + fact % 8 + "&k=" + (fact < 8 ? 0 : 3));
            }
            Due.due("17 round by round up to " + missing, x.proved(0), (1 << missing) - 1);
            x.show(missing < 10 ? 1 << missing : 0);
            Due.due("17 round by round past " + missing, x.proved(0), 1023);
        }
    }

    private static void provedByWordsThatAreHeardToEndZero() {
        for (int end = 0; end < 4; end++) {
            HeardWords x = new HeardWords();
            x.word(0, 0, 4);
            x.word(6, 1, 8);
            x.hold(1, 0);
            Bounds.rule(x, 0, "out b=1&e=" + end);
            Bounds.rule(x, 1, "out b=0&e=" + end);
            Due.due("17 out of end " + end, x.proved(0), end == 0 ? 4 : 12);
            Due.due("17 a part out of end " + end, x.proved(1), end == 0 ? 0 : 12);
        }
    }

    // ---- 18: needed

    private static void neededNumbers() {
        HeardWords x = new HeardWords();
        x.word(0, 0, 1023);
        for (int none : Bounds.outside(2)) {
            Due.due("18 no land " + none, x.needed(0, none), Bounds.NONE);
            Due.due("18 no land " + none + " ahead of BAD", x.needed(1024, none), Bounds.NONE);
        }
        for (int bad : Bounds.outside(1024)) {
            Due.due("18 no facts " + bad, x.needed(bad, 0), Bounds.BAD);
            Due.due("18 no facts " + bad, x.needed(bad, 1), Bounds.BAD);
        }
        Due.due("18 none of them", x.needed(0, 1), 0);
        Due.due("18 all of them", x.needed(1023, 1), 1);
        Bounds.rule(x, 1, "out k=0");
        Due.due("18 none of them", x.needed(0, 1), 0);
        Due.due("18 not proved", x.needed(1023, 1), Bounds.MISSING);
        Due.due("18 BAD ahead of not proved", x.needed(1024, 1), Bounds.BAD);
        x.show(511);
        Due.due("18 one is not proved", x.needed(1023, 1), Bounds.MISSING);
        Due.due("18 those are shown", x.needed(511, 1), 0);
        Due.due("18 one of them is not proved", x.needed(513, 1), Bounds.MISSING);
    }

    private static void neededFromNoneToAll() {
        HeardWords x = Bounds.chain();
        HeardWords y = new HeardWords();
        for (int i = 0; i < 14; i++) {
            y.word(6, 0, i == 13 ? 4 : 0);
            if (i > 0) {
                y.hold(i, i - 1);
            }
        }
        Due.due("18 all fourteen", y.needed(4, 0), 16383);
        Due.due("18 none, as it is not asked for", y.needed(0, 0), 0);
        Due.due("18 none shows it", x.needed(4, 0), Bounds.MISSING);
        y.show(4);
        Due.due("18 none, as it is shown", y.needed(4, 0), 0);
        HeardWords z = new HeardWords();
        z.word(0, 0, 3);
        z.word(0, 1, 5);
        Due.due("18 either shows it", z.needed(1, 0), 0);
        Due.due("18 the first alone", z.needed(2, 0), 1);
        Due.due("18 the other alone", z.needed(4, 0), 2);
        Due.due("18 both", z.needed(6, 0), 3);
    }

    /** Without a word, what holds it at any depth isn't heard: not so what it holds. */
    private static void neededWithWhatHoldsThem() {
        for (int shows = 0; shows < 14; shows++) {
            HeardWords x = new HeardWords();
            for (int i = 0; i < 14; i++) {
                x.word(6, 0, i == shows ? 512 : 0);
                if (i > 0) {
                    x.hold(i, i - 1);
                }
            }
            Due.due("18 word " + shows + " and all that it holds", x.needed(512, 1), (2 << shows) - 1);
        }
    }

    private static void neededInLandOne() {
        HeardWords x = new HeardWords();
        x.word(0, 0, 1);
        x.word(0, 1, 2);
        x.word(0, 2, 2);
        Bounds.rule(x, 1, "need 0 b=1;out b=2");
        Bounds.rule(x, 0, "out b=1;out b=0");
        Due.due("18 land 0", x.needed(2, 0), 4);
        Due.due("18 land 1", x.needed(2, 1), 3);
        Due.due("18 not proved in land 0", x.needed(1, 0), Bounds.MISSING);
        Due.due("18 proved in land 1", x.needed(1, 1), 1);
    }

    // ---- 19: plan

    private static void planNumbers() {
        HeardWords x = Bounds.words(0, 14);
        for (int none : Bounds.outside(2)) {
            Due.due("19 no land " + none, x.plan(1, none, 0), Bounds.NONE);
            Due.due("19 no land " + none + " ahead of BAD", x.plan(0, none, 0), Bounds.NONE);
        }
        for (int i : Bounds.below()) {
            int due = i == -1 ? 1 : Bounds.NONE;
            Due.due("19 i " + i, x.plan(1, 1, i), due);
            Due.due("19 i " + i + " and no words", x.plan(0, 1, i), i == -1 ? Bounds.BAD : Bounds.NONE);
        }
        for (int bad : Bounds.outside(1 << 14)) {
            Due.due("19 none such " + bad, x.plan(bad, 0, -1), Bounds.BAD);
            Due.due("19 none such " + bad + " ahead of i beyond", x.plan(bad, 0, 5), Bounds.BAD);
        }
        for (int n = 0; n <= 14; n++) {
            HeardWords y = Bounds.words(0, n);
            Due.due("19 word " + n + " of none such", y.plan(1 << n, 0, -1), Bounds.BAD);
            Due.due("19 word " + n + " with another", y.plan(1 | 1 << n, 0, -1), Bounds.BAD);
            if (n > 0) {
                Due.due("19 the last word of " + n, y.plan(1 << n - 1, 0, 0), n - 1);
            }
        }
    }

    private static void planOfOneToFive() {
        for (int n = 0; n <= 14; n++) {
            HeardWords x = Bounds.words(0, 14);
            int first = (1 << n) - 1;
            int last = first << 14 - n;
            int due = n >= 1 && n <= 5 ? 1 : Bounds.BAD;
            Due.due("19 the first " + n, x.plan(first, 0, -1), due);
            Due.due("19 the last " + n, x.plan(last, 0, -1), due);
            Bounds.rule(x, 1, "out k=0");
            due = n >= 1 && n <= 5 ? 0 : Bounds.BAD;
            Due.due("19 no plan for the first " + n, x.plan(first, 1, -1), due);
            Due.due("19 no place in it", x.plan(first, 1, 0), due == 0 ? Bounds.NONE : Bounds.BAD);
        }
    }

    private static void planPlaces() {
        for (int n = 1; n <= 5; n++) {
            HeardWords x = Bounds.words(0, n);
            int all = (1 << n) - 1;
            for (int i = 0; i < n; i++) {
                Due.due("19 place " + i + " of " + n, x.plan(all, 0, i), i);
            }
            for (int i : new int[] {n, n + 1, n + 32, 256, 65536, Bounds.MAX}) {
                Due.due("19 beyond " + n + " at " + i, x.plan(all, 0, i), Bounds.NONE);
            }
            Due.due("19 there is one", x.plan(all, 0, -1), 1);
        }
    }

    private static void planOfTheLastWords() {
        HeardWords x = new HeardWords();
        for (int i = 0; i < 14; i++) {
            x.word(i < 9 ? 0 : 1, i % 8, 1 << i % 10);
        }
        Bounds.rule(x, 0, "need 0 b=1&k=1;need 9 b=3&k=1");
        int[] order = {10, 9, 11, 12, 13};
        for (int i = 0; i < 5; i++) {
            Due.due("19 the last five at " + i, x.plan(31 << 9, 0, i), order[i]);
        }
    }

    private static void planIsTheFirst() {
        HeardWords x = Bounds.words(0, 5);
        Bounds.rule(x, 0, "out b=0&!s=4");
        Due.due("19 none without that fact", x.plan(31, 0, -1), 0);
        HeardWords y = new HeardWords();
        for (int i = 0; i < 5; i++) {
            y.word(0, i, 1 << i);
        }
        Bounds.rule(y, 0, "need 3 b=0;need 4 b=1");
        int[] order = {2, 3, 0, 4, 1};
        for (int i = 0; i < 5; i++) {
            Due.due("19 the first order at " + i, y.plan(31, 0, i), order[i]);
        }
        Bounds.rule(y, 0, "out s=3&!b=0&!s=4");
        int[] later = {2, 4, 1, 3, 0};
        for (int i = 0; i < 5; i++) {
            Due.due("19 not on from where it ends at " + i, y.plan(31, 0, i), later[i]);
        }
    }

    private static void planWithAndWithoutPlan() {
        HeardWords x = new HeardWords();
        x.word(0, 0, 1);
        x.word(0, 1, 2);
        Bounds.rule(x, 0, "need 1 b=0;need 0 b=1");
        Due.due("19 each asks for the other", x.plan(3, 0, -1), 0);
        for (int i = 0; i < 3; i++) {
            Due.due("19 without a plan " + i, x.plan(3, 0, i), Bounds.NONE);
        }
        Due.due("19 a plan in land 1", x.plan(3, 1, -1), 1);
        x.show(1);
        Due.due("19 one is shown", x.plan(3, 0, 0), 1);
        Due.due("19 then the other", x.plan(3, 0, 1), 0);
        x.show(2);
        Due.due("19 the other is shown", x.plan(3, 0, 0), 0);
        Due.due("19 no place", x.plan(3, 0, 2), Bounds.NONE);
    }

    private static void planTakesOwnFactsAlone() {
        HeardWords x = new HeardWords();
        x.word(0, 1, 1);
        x.word(6, 2, 2);
        x.word(0, 3, 4);
        x.hold(1, 0);
        Bounds.rule(x, 0, "need 0 b=3");
        Bounds.rule(x, 1, "need 1 b=3");
        Due.due("19 the facts of its part don't come with it", x.plan(6, 0, -1), 0);
        Due.due("19 its own do", x.plan(6, 1, -1), 1);
        Due.due("19 with the part as well", x.plan(7, 0, -1), 1);
    }

    // ---- 20: clash

    private static void clashFromNoneToMost() {
        for (int n = 0; n <= 10; n++) {
            HeardWords x = Bounds.words(0, 1);
            for (int i = 0; i < 10; i++) {
                Bounds.rule(x, 1, i < n ? "out k=0&!e=1" : "in k=0&!e=2");
            }
            Due.due("20 " + n + " keep out", x.clash(0, 0, 1), n * (10 - n));
            Due.due("20 none keeps out", x.clash(0, 1, 1), 0);
            Due.due("20 none lets in", x.clash(0, 2, 1), 0);
            Due.due("20 none of that land", x.clash(0, 0, 0), 0);
        }
        HeardWords x = Bounds.words(0, 1);
        Bounds.rule(x, 0, "out k=0");
        Bounds.rule(x, 0, "in k=0;may k=0");
        Due.due("20 both keep out", x.clash(0, 0, 0), 0);
        x.least(0, 0, 0, 0);
        x.judge(2);
        Due.due("20 one is let in", x.clash(0, 0, 0), 1);
        Bounds.rule(x, 0, "in k=0;need 9 k=0");
        Due.due("20 a third keeps out", x.clash(0, 0, 0), 2);
        x.show(512);
        Due.due("20 it doesn't with its fact", x.clash(0, 0, 0), 2);
        x.judge(0);
        Due.due("20 two against one", x.clash(0, 0, 0), 2);
    }

    // ---- 21: silent

    private static void silentFromNoneToAll() {
        HeardWords x = Bounds.words(0, 14);
        Due.due("21 all", x.silent(0, 0), 16383);
        Bounds.rule(x, 0, "in k=0&e=3");
        Due.due("21 none to end 3", x.silent(3, 0), 0);
        Due.due("21 all to end 2", x.silent(2, 0), 16383);
        Due.due("21 all in land 1", x.silent(3, 1), 16383);
        Bounds.rule(x, 0, "out b=5");
        Due.due("21 all but words 5 and 13", x.silent(0, 0), 16383 - 32 - 8192);
        HeardWords y = Bounds.words(6, 2);
        y.hold(1, 0);
        Bounds.rule(y, 0, "out b=0");
        Due.due("21 a part that is met doesn't count", y.silent(0, 0), 2);
        Bounds.rule(y, 1, "need 2 s=3");
        y.least(0, 0, 1, 0);
        Due.due("21 it doesn't hold", y.silent(0, 1), 3);
        y.show(8);
        Due.due("21 it holds", y.silent(0, 1), 0);
        y.show(12);
        Due.due("21 it holds where its fact is shown", y.silent(0, 1), 0);
    }

    // ---- 22: hangs

    private static void hangsFromNoneToAll() {
        for (int land = 0; land < 2; land++) {
            HeardWords x = Bounds.words(0, 14);
            Bounds.rule(x, land, "may k=0");
            Due.due("22 all words to all ends", x.hangs(0), 56);
            x.judge(1);
            Due.due("22 if let in as well", x.hangs(0), 56);
            Bounds.rule(x, 1 - land, "out k=0");
            Due.due("22 a rule of another land", x.hangs(0), 56);
            Due.due("22 a rule without a may", x.hangs(1), 0);
            Bounds.rule(x, land, "out k=0&!e=1");
            Due.due("22 to end 1 alone", x.hangs(0), 14);
            Bounds.rule(x, land, "out e=1");
            Due.due("22 kept out anyway", x.hangs(0), 0);
        }
        HeardWords x = Bounds.chain();
        Bounds.rule(x, 1, "may b=0&e=0");
        Due.due("22 word 0 to end 0, the others by their parts to all but end 1", x.hangs(0), 1 + 3 * 13);
        Bounds.rule(x, 0, "may k=9");
        Due.due("22 a may that never holds", x.hangs(1), 0);
    }

    // ---- 23: most

    private static void mostFromNoneToTheLast() {
        HeardWords none = Bounds.words(0, 3);
        Due.due("23 no rules", none.most(), Bounds.MISSING);
        for (int most = 0; most < 10; most++) {
            HeardWords x = Bounds.words(0, 3);
            for (int i = 0; i < 10; i++) {
                Bounds.rule(x, i % 2, i == most ? "may b=1" : "may b=0&e=2");
            }
            x.judge(1023);
            Due.due("23 rule " + most, x.most(), most);
            Due.due("23 by four", x.hangs(most), 4);
        }
        HeardWords x = new HeardWords();
        Bounds.rule(x, 1, "may k=0");
        Bounds.rule(x, 0, "may k=0");
        Due.due("23 no words", x.most(), 0);
        x.word(0, 0, 0);
        Due.due("23 of two the least", x.most(), 0);
        Bounds.rule(x, 1, "may k=0");
        Due.due("23 two of a land stand in each other's way", x.most(), 1);
    }

    // ---- 24: beside

    private static void besideFromNoneToAll() {
        for (int end = 0; end < 4; end++) {
            HeardWords x = Bounds.words(0, 14);
            Due.due("24 both, no rules", x.beside(end, 2), 16383);
            Due.due("24 none in land 0 alone", x.beside(end, 0), 0);
            Due.due("24 none in land 1 alone", x.beside(end, 1), 0);
            Bounds.rule(x, 1, "out e=" + end);
            Due.due("24 all in land 0 alone", x.beside(end, 0), 16383);
            Due.due("24 both but to that end", x.beside((end + 1) % 4, 2), 16383);
            Bounds.rule(x, 0, "out b=5&e=" + end);
            Due.due("24 but for words 5 and 13", x.beside(end, 0), 16383 - 32 - 8192);
            Due.due("24 neither", x.beside(end, 1) | x.beside(end, 2), 0);
        }
        HeardWords y = Bounds.words(6, 2);
        y.hold(1, 0);
        Bounds.rule(y, 0, "may b=0;out s=1");
        Bounds.rule(y, 1, "need 2 b=1;out s=1");
        y.least(0, 0, 0, 0);
        Due.due("24 word 0 in land 1 alone", y.beside(0, 1), 1);
        y.judge(1);
        Due.due("24 both in land 0, word 0 in both", 4 * y.beside(0, 0) + y.beside(0, 2), 9);
        y.show(4);
        Due.due("24 both in both", y.beside(0, 2), 3);
        y.show(6);
        Due.due("24 neither", y.beside(0, 2), 0);
    }
}

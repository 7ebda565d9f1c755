/** Promises 17 to 19: proved, needed, plan. */
public final class ProofTest {
    private ProofTest() {
    }

    public static void main(String[] args) {
        proved();
        provedAllAtOnce();
        needed();
        neededAgain();
        plan();
        planByPersons();
        planOfParts();
        planOfFive();
        Due.finish();
    }

    /** Words 0 to 9 by person 0, SAID, each showing the fact of its number. */
    private static HeardWords ten() {
        HeardWords x = new HeardWords();
        for (int i = 0; i < 10; i++) {
            x.word(1, i % 8, 1 << i);
        }
        return x;
    }

    private static void proved() {
        HeardWords x = ten();
        Due.due("17 all", x.proved(0), 1023);
        Due.rule(x, 0, "out b=0;out b=1|b=2|b=3|b=4|b=5|b=6|b=7");
        Due.due("17 nothing", x.proved(0), 0);
        Due.due("17 land 1", x.proved(1), 1023);
        x.show(5);
        Due.due("17 what is shown", x.proved(0), 5);
        Due.due("17 land", x.proved(2), -1);
        Due.due("17 land", x.proved(-1), -1);
        HeardWords y = ten();
        Due.rule(y, 0, "need 1 b=0;need 2 b=1;need 3 b=2;need 4 b=3;need 5 b=4;need 6 b=5");
        Due.rule(y, 0, "need 7 b=6");
        Due.due("17 again and again", y.proved(0), 1023);
        Due.rule(y, 0, "out b=7");
        Due.due("17 the first is missing", y.proved(0), 0);
        y.show(64);
        Due.due("17 from the middle on", y.proved(0), 127 + 256 + 512);
        Due.due("17 asking shows nothing", y.show(64), 64);
    }

    private static void provedAllAtOnce() {
        HeardWords x = new HeardWords();
        x.word(0, 0, 1);
        x.word(0, 1, 2);
        x.word(0, 2, 4);
        x.word(0, 3, 8);
        Due.rule(x, 0, "out b=1&s=0");
        Due.rule(x, 0, "out b=2&!s=0");
        Due.rule(x, 0, "out b=3&!s=1;out e=1");
        Due.due("17 all at once, and what was proved stays proved", x.proved(0), 15);
        x.show(1);
        Due.due("17 what is shown harms", x.proved(0), 1 + 4);
        HeardWords y = new HeardWords();
        y.word(0, 0, 1);
        y.word(0, 0, 2);
        Due.rule(y, 0, "out h=0&k=0&s=9");
        Due.rule(y, 0, "out h=0&s=0");
        Due.due("17 none is heard before", y.proved(0), 3);
        HeardWords j = new HeardWords();
        j.word(0, 0, 1);
        j.word(0, 1, 2);
        Due.rule(j, 0, "may b=0;out h>0;need 0 b=1");
        Due.due("17 kept out by the judge", j.proved(0), 0);
        j.judge(1);
        Due.due("17 let in by the judge", j.proved(0), 3);
        Due.due("18 let in by the judge", j.needed(2, 0), 3);
        HeardWords z = new HeardWords();
        z.word(0, 0, 1);
        z.word(6, 1, 2);
        z.hold(1, 0);
        Due.rule(z, 0, "out b=0");
        Due.due("17 with a part that isn't heard nothing is proved", z.proved(0), 0);
    }

    private static void needed() {
        HeardWords x = new HeardWords();
        x.word(0, 0, 1);
        x.word(6, 1, 2);
        x.word(6, 2, 4);
        x.word(0, 3, 4);
        x.hold(1, 0);
        x.hold(2, 1);
        Due.due("18 itself and its part", x.needed(2, 0), 3);
        Due.due("18 another one shows it too", x.needed(4, 0), 0);
        Due.due("18 no facts", x.needed(0, 0), 0);
        Due.due("18 facts together", x.needed(7, 0), 3);
        Due.due("18 not proved", x.needed(8, 0), -5);
        Due.due("18 not all proved", x.needed(9, 0), -5);
        Due.due("18 land", x.needed(0, 2), -1);
        Due.due("18 land", x.needed(1024, -1), -1);
        Due.due("18 facts", x.needed(1024, 0), -2);
        Due.due("18 facts", x.needed(-1, 0), -2);
        Due.rule(x, 1, "out b=3");
        Due.due("18 those that it holds at any depth", x.needed(4, 1), 7);
        x.show(4);
        Due.due("18 shown anyway", x.needed(4, 1), 0);
        Due.due("18 shown is proved", x.needed(6, 1), 3);
    }

    private static void neededAgain() {
        HeardWords x = new HeardWords();
        x.word(0, 0, 1);
        x.word(0, 1, 2);
        x.word(0, 2, 4);
        Due.rule(x, 0, "need 0 b=1;need 1 b=2");
        Due.due("18 those that let it in", x.needed(4, 0), 7);
        Due.due("18 not those behind it", x.needed(2, 0), 3);
        Due.rule(x, 0, "out b=2&s=2");
        Due.due("18 what was proved stays proved", x.needed(7, 0), 7);
    }

    private static void plan(HeardWords x, int words, int land, int... order) {
        Due.due("19 whether " + words, x.plan(words, land, -1), order.length > 0 ? 1 : 0);
        for (int i = 0; i < order.length; i++) {
            Due.due("19 plan of " + words + " at " + i, x.plan(words, land, i), order[i]);
        }
        Due.due("19 beyond", x.plan(words, land, order.length), -1);
        Due.due("19 far beyond", x.plan(words, land, Integer.MAX_VALUE), -1);
    }

    private static void plan() {
        HeardWords x = ten();
        plan(x, 1, 0, 0);
        plan(x, 512 + 8 + 2, 0, 1, 3, 9);
        Due.rule(x, 0, "need 9 b=3;need 3 b=2");
        plan(x, 512 + 8 + 4, 0, 9, 3, 2);
        plan(x, 512 + 8 + 4 + 2, 0, 1, 9, 3, 2);
        plan(x, 512 + 8 + 4 + 2, 1, 1, 2, 3, 9);
        plan(x, 8 + 4, 0);
        plan(x, 4, 0);
        x.show(8);
        plan(x, 4, 0, 2);
        plan(x, 8 + 4, 0);
        Due.due("19 land", x.plan(1, 2, 0), -1);
        Due.due("19 land", x.plan(0, -1, 0), -1);
        Due.due("19 i below -1", x.plan(1, 0, -2), -1);
        Due.due("19 i below -1 ahead of words", x.plan(0, 0, -2), -1);
        Due.due("19 i far below", x.plan(1, 0, Integer.MIN_VALUE), -1);
        Due.due("19 no words", x.plan(0, 0, -1), -2);
        Due.due("19 none such", x.plan(1024, 0, -1), -2);
        Due.due("19 none such among them", x.plan(1025, 0, 0), -2);
        Due.due("19 none such", x.plan(-1, 0, 0), -2);
        Due.due("19 none such", x.plan(Integer.MIN_VALUE, 0, 0), -2);
        Due.due("19 six", x.plan(63, 0, -1), -2);
        Due.due("19 BAD ahead of i beyond", x.plan(63, 0, 7), -2);
        plan(x, 1 + 2 + 16 + 32 + 64, 0, 0, 1, 4, 5, 6);
    }

    private static void planByPersons() {
        HeardWords x = new HeardWords();
        x.word(0, 1, 0);
        x.word(3, 1, 0);
        x.word(4, 1, 0);
        x.word(1, 2, 0);
        Due.rule(x, 0, "out k=0&!h=2;out k=3&h>0;out k=4&h<1;out k=1&h>0");
        plan(x, 7, 0, 1, 2, 0);
        plan(x, 15, 0, 1, 2, 0, 3);
        plan(x, 3, 0);
        HeardWords y = new HeardWords();
        y.word(0, 1, 0);
        y.word(6, 2, 0);
        y.word(3, 1, 0);
        y.hold(1, 0);
        Due.rule(y, 0, "out k=3&h=0");
        plan(y, 6, 0);
        plan(y, 7, 0, 0, 1, 2);
    }

    /** A word's parts are asked about with what was heard before, too. */
    private static void planOfParts() {
        HeardWords x = new HeardWords();
        x.word(0, 1, 4);
        x.word(6, 2, 2);
        x.word(0, 3, 1);
        x.hold(1, 0);
        Due.rule(x, 0, "need 0 b=1");
        plan(x, 2 + 4, 0, 2, 1);
        plan(x, 7, 0, 2, 0, 1);
        plan(x, 2, 0);
        Due.rule(x, 0, "need 2 b=3");
        plan(x, 6, 0);
        Due.rule(x, 1, "out s=1");
        plan(x, 7, 1, 0, 2, 1);
    }

    private static void planOfFive() {
        HeardWords x = ten();
        Due.rule(x, 0, "need 1 b=0;need 2 b=1;need 3 b=2;need 4 b=3");
        plan(x, 31, 0, 4, 3, 2, 1, 0);
        Due.rule(x, 0, "out b=4&s=5");
        plan(x, 31, 0, 4, 3, 2, 1, 0);
        plan(x, 32 + 16 + 8 + 4 + 2, 0, 4, 3, 2, 1, 5);
        Due.rule(x, 0, "out s=1&!s=0");
        plan(x, 32 + 16 + 8 + 4 + 2, 0, 4, 3, 2, 5, 1);
        Due.rule(x, 0, "may b=2");
        plan(x, 8 + 4, 0);
        x.judge(8);
        plan(x, 8 + 4, 0);
        x.show(16);
        plan(x, 8 + 4, 0, 3, 2);
        x.judge(0);
        plan(x, 8 + 4, 0);
        x.show(0);
        Due.rule(x, 1, "out s=0;out s=9&!s=8");
        plan(x, 1 + 512 + 256 + 2, 1, 1, 8, 9, 0);
    }
}

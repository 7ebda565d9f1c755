/** Promises 7 to 10: feed, rule, judge, meets. */
public final class RulesTest {
    private RulesTest() {
    }

    public static void main(String[] args) {
        feed();
        rule();
        faults();
        nesting();
        judge();
        meets();
        tests();
        conditions();
        ways();
        Due.finish();
    }

    private static void feed() {
        HeardWords x = new HeardWords();
        Due.due("7 no bytes", x.feed(12345, 0), 0);
        Due.due("7 n", x.feed(0, -1), -2);
        Due.due("7 n", x.feed(0, 5), -2);
        Due.due("7 highest first", x.feed('o' << 24 | 'u' << 16 | 't' << 8 | ' ', 4), 4);
        Due.due("7 lowest ones only", x.feed('x' << 24 | 'k' << 16 | '=' << 8 | '1', 3), 7);
        Due.due("7 rule", x.rule(0), 0);
        Due.due("7 the text is empty then", x.count(2), 0);
        Due.due("7 high bytes", x.feed(-1, 2), 2);
        Due.due("7 no sign of them begins a rule", x.rule(0), -10);
        for (int i = 1; i <= 24; i++) {
            Due.due("7 four more", x.feed(i, 4), 4 * i);
        }
        x.feed(0, 3);
        Due.due("7 101 of them", x.feed(0, 2), -4);
        Due.due("7 BAD ahead of FULL", x.feed(0, 5), -2);
        Due.due("7 what is FULL changes nothing", x.count(2), 99);
        Due.due("7 100 of them", x.feed(0, 1), 100);
        Due.due("7 FULL", x.feed(0, 1), -4);
        Due.due("7 none more", x.feed(0, 0), 100);
    }

    private static void rule() {
        HeardWords x = new HeardWords();
        Due.feed(x, "out k=1");
        Due.due("8 land", x.rule(2), -1);
        Due.due("8 land", x.rule(-1), -1);
        Due.due("8 the text stays", x.count(2), 7);
        Due.due("8 rule", x.rule(1), 0);
        Due.due("8 of land 1", x.count(3), 0);
        Due.due("8 six clauses", Due.rule(x, 0, "in k=1;in k=1;need 9 k=1;may k=1;out k=1;in k=1"), 1);
        for (int i = 2; i < 10; i++) {
            Due.due("8 rule", Due.rule(x, i % 2, "may h>0"), i);
        }
        Due.due("8 ten", x.count(1), 10);
        Due.due("8 of land 0", x.count(3), 5);
        Due.feed(x, "x");
        Due.due("8 FULL", x.rule(0), -4);
        Due.due("8 the text stays", x.count(2), 1);
        Due.due("8 NONE ahead of FULL", x.rule(2), -1);
    }

    private static void fault(String text, int place) {
        HeardWords x = new HeardWords();
        Due.due("8 fault of " + text, Due.rule(x, 0, text), -10 - place);
        Due.due("8 no rule", x.count(1), 0);
        Due.due("8 the text is empty", x.count(2), 0);
        Due.due("8 another rule", Due.rule(x, 0, "out k=1"), 0);
    }

    private static void faults() {
        fault("", 0);
        fault("x", 0);
        fault(" out k=1", 0);
        fault("Out k=1", 0);
        fault("o", 1);
        fault("on k=1", 1);
        fault("ou", 2);
        fault("out", 3);
        fault("outk=1", 3);
        fault("out ", 4);
        fault("out  k=1", 4);
        fault("in", 2);
        fault("inn", 2);
        fault("may", 3);
        fault("mai", 2);
        fault("need", 4);
        fault("need ", 5);
        fault("need k=1", 5);
        fault("need 12 k=1", 6);
        fault("need 1", 6);
        fault("need 1k=1", 6);
        fault("need 1 ", 7);
        fault("out u<1", 5);
        fault("out b>1", 5);
        fault("out c>1", 5);
        fault("out e<1", 5);
        fault("out s<1", 5);
        fault("out k1", 5);
        fault("out h", 5);
        fault("out h!", 5);
        fault("out k=", 6);
        fault("out k==1", 6);
        fault("out k=a", 6);
        fault("out k=/", 6);
        fault("out k=:", 6);
        fault("out k=12", 7);
        fault("out k=1 ", 7);
        fault("out k =1", 5);
        fault("out k=1)", 7);
        fault("out k=1&", 8);
        fault("out k=1&&k=2", 8);
        fault("out k=1|", 8);
        fault("out k=1|&", 8);
        fault("out k=1&out", 8);
        fault("out k=1!k=2", 7);
        fault("out k=1(k=2)", 7);
        fault("out !", 5);
        fault("out !)", 5);
        fault("out ()", 5);
        fault("out (k=1", 8);
        fault("out (k=1;", 8);
        fault("out (k=1;out k=1)", 8);
        fault("out (k=1))", 9);
        fault("out k=1;", 8);
        fault("out k=1; out k=1", 8);
        fault("out k=1;;", 8);
        fault("out k=1;x", 8);
        fault("in k=1;in k=1;in k=1;in k=1;in k=1;in k=1;", 41);
        fault("in k=1;in k=1;in k=1;in k=1;in k=1;in k=1;in k=1", 41);
        fault("out k=1" + (char) 0, 7);
        fault("out z=1", 4);
        fault("out K=1", 4);
        fault("out " + (char) ('k' + 128) + "=1", 4);
    }

    private static void nesting() {
        HeardWords x = new HeardWords();
        Due.due("8 four deep", Due.rule(x, 0, "in ((((k=1))))"), 0);
        Due.due("8 four deep", Due.rule(x, 0, "in !!!!k=1"), 1);
        Due.due("8 four deep", Due.rule(x, 0, "in !(!(k=1|k=2)&!k=3)"), 2);
        Due.due("8 one after the other", Due.rule(x, 0, "in !k=1&!k=2&!k=3&(k=1)&(k=2)&!(k=1)"), 3);
        Due.due("8 four deep twice", Due.rule(x, 0, "in !!!!k=1|((((k=1))));may !!!!k=3"), 4);
        fault("in (((((k=1)))))", 7);
        fault("in !!!!!k=1", 7);
        fault("in !(!(!k=1))", 7);
        fault("in ((((!k=1))))", 7);
        fault("in !(!(k=1|!k=2))", 11);
        fault("in ((((k=1&(k=2)))))", 11);
        fault("in ((((k=1)&(k=2)|!!k=1)))", 19);
        HeardWords y = new HeardWords();
        Due.rule(y, 0, "out k=1&k=2;in k=3");
        Due.due("8 what stood there before is gone", Due.rule(y, 0, "out k=1&"), -18);
        Due.due("8 what stood there before is gone", Due.rule(y, 0, "out k=1"), 1);
        Due.due("8 what stood there before is gone", Due.rule(y, 0, "out k="), -16);
        String longest = "out k=1";
        for (int i = 0; i < 23; i++) {
            longest += "&k=1";
        }
        Due.due("8 a long one", Due.rule(x, 1, longest), 5);
    }

    private static void judge() {
        HeardWords x = new HeardWords();
        x.word(0, 0, 0);
        Due.due("9 no rules", x.judge(1), -2);
        Due.due("9 no rules", x.judge(0), 0);
        Due.rule(x, 0, "may k=0");
        Due.rule(x, 1, "may k=0");
        Due.due("9 keeps out at first", x.heard(0, 0, 0), 0);
        Due.due("9 judge", x.judge(1), 0);
        Due.due("9 lets in", x.heard(0, 0, 0), 1);
        Due.due("9 by that rule alone", x.heard(0, 0, 1), 0);
        Due.due("9 of none such", x.judge(4), -2);
        Due.due("9 of none such", x.judge(5), -2);
        Due.due("9 of none such", x.judge(-1), -2);
        Due.due("9 of none such", x.judge(Integer.MIN_VALUE), -2);
        Due.due("9 judge", x.judge(2), 1);
        Due.due("9 keeps out again", x.heard(0, 0, 0), 0);
        Due.due("9 lets in", x.heard(0, 0, 1), 1);
        Due.due("9 judge", x.judge(0), 2);
    }

    private static void meets() {
        HeardWords x = new HeardWords();
        x.word(1, 0, 0);
        x.word(3, 1, 0);
        Due.rule(x, 0, "in k=1;out k=3;out k=1;in b=0;need 4 b=1&e=2;may e=3");
        Due.due("10 meets by an in", x.meets(0, 0, 0, 0), 1);
        Due.due("10 doesn't keep out", x.meets(0, 0, 0, 1), 0);
        Due.due("10 the first in", x.meets(0, 0, 0, 2), 0);
        Due.due("10 keeps out by an out", x.meets(0, 1, 0, 1), 1);
        Due.due("10 no way", x.meets(0, 1, 0, 2), -5);
        Due.due("10 keeps out by a may", x.meets(0, 0, 3, 1), 1);
        Due.due("10 a way all the same", x.meets(0, 0, 3, 2), 0);
        x.judge(1);
        Due.due("10 the judge lets in", x.meets(0, 0, 3, 1), 0);
        Due.due("10 it is met still", x.meets(0, 0, 3, 0), 1);
        needs();
        Due.due("10 rule", x.meets(1, 0, 0, 0), -1);
        Due.due("10 rule", x.meets(-1, 0, 0, 0), -1);
        Due.due("10 word", x.meets(0, 2, 0, 0), -1);
        Due.due("10 word", x.meets(0, -1, 0, 0), -1);
        Due.due("10 end", x.meets(0, 0, 4, 0), -1);
        Due.due("10 end", x.meets(0, 0, -1, 0), -1);
        Due.due("10 what", x.meets(0, 0, 0, 3), -1);
        Due.due("10 what", x.meets(0, 0, 0, -1), -1);
    }

    private static void needs() {
        HeardWords x = new HeardWords();
        x.word(0, 0, 0);
        Due.rule(x, 1, "need 4 e=2;need 6 e<9;in e=2");
        Due.due("10 e takes = alone, so there is none", x.count(1), 0);
        Due.rule(x, 1, "need 4 e=2;need 6 k<9;in e=2");
        Due.due("10 a need is no out that an in overcomes", x.meets(0, 0, 2, 1), 1);
        Due.due("10 no way without an out", x.meets(0, 0, 2, 2), -5);
        x.show(16);
        Due.due("10 one need is left", x.meets(0, 0, 2, 1), 1);
        x.show(64);
        Due.due("10 the other is left", x.meets(0, 0, 2, 1), 1);
        Due.due("10 where it isn't asked for", x.meets(0, 0, 1, 1), 0);
        x.show(80);
        Due.due("10 none is left", x.meets(0, 0, 2, 1), 0);
        Due.due("10 a need that is shown meets still", x.meets(0, 0, 1, 0), 1);
    }

    /** Whether a test holds of a word of a kind by person 3, of whom bits 1 and 5 are known, with 2 and 9 shown. */
    private static void test(String test, int kind, int end, int want) {
        HeardWords x = new HeardWords();
        x.known(3, 34);
        x.show(4 + 512);
        x.word(kind, 3, 0);
        Due.rule(x, 0, "in " + test);
        Due.due("10 " + test + " of kind " + kind, x.meets(0, 0, end, 0), want);
    }

    private static void tests() {
        int[] above = {0, 0, 1, 0, 0, 2, 1};
        for (int kind = 0; kind < 7; kind++) {
            for (int n = 0; n < 10; n++) {
                test("k<" + n, kind, 0, kind < n ? 1 : 0);
                test("k=" + n, kind, 0, kind == n ? 1 : 0);
                test("k>" + n, kind, 0, kind > n ? 1 : 0);
                boolean under = kind == n || above[kind] == n || above[above[kind]] == n || n == 0;
                test("u=" + n, kind, 0, under ? 1 : 0);
            }
        }
        for (int n = 0; n < 10; n++) {
            test("b=" + n, 0, 0, n == 3 ? 1 : 0);
            test("c=" + n, 0, 0, n == 1 || n == 5 ? 1 : 0);
            test("s=" + n, 0, 0, n == 2 || n == 9 ? 1 : 0);
            test("e=" + n, 0, 2, n == 2 ? 1 : 0);
            test("h<" + n, 0, 0, 0 < n ? 1 : 0);
            test("h=" + n, 0, 0, n == 0 ? 1 : 0);
            test("h>" + n, 0, 0, 0);
        }
    }

    private static void conditions() {
        // s=2 and s=9 hold, s=0 and s=1 don't.
        test("s=2|s=0&s=1", 0, 0, 1);
        test("s=0&s=1|s=2", 0, 0, 1);
        test("s=0&s=2|s=9&s=1", 0, 0, 0);
        test("s=0&s=1|s=2&s=9", 0, 0, 1);
        test("(s=2|s=0)&s=1", 0, 0, 0);
        test("s=1&(s=0|s=2)", 0, 0, 0);
        test("s=9&(s=0|s=2)", 0, 0, 1);
        test("!s=0&s=1", 0, 0, 0);
        test("!s=0&s=2", 0, 0, 1);
        test("!(s=0&s=1)", 0, 0, 1);
        test("!(s=0|s=2)", 0, 0, 0);
        test("!!s=2", 0, 0, 1);
        test("!!!s=2", 0, 0, 0);
        test("!s=2|s=0", 0, 0, 0);
        test("s=0|!s=2|s=1|s=9", 0, 0, 1);
        test("s=2&s=9&s=2&!s=9", 0, 0, 0);
        test("(s=2&(s=9&(s=2&(s=9|s=0))))", 0, 0, 1);
        test("s=0|(s=0|(s=0|(s=0|s=2&s=9)))", 0, 0, 1);
        test("s=2&(s=9&(s=2&(s=9&s=0|s=1)))", 0, 0, 0);
    }

    private static void ways() {
        HeardWords x = new HeardWords();
        x.word(0, 0, 0);
        x.word(0, 1, 0);
        x.word(0, 2, 0);
        Due.rule(x, 0, "need 0 b=9;out b=0;may b=9;in b=1;out b=1;in k=0&!b=2");
        Due.due("10 the first of those in that hold", x.meets(0, 0, 0, 2), 5);
        Due.due("10 numbered among all clauses", x.meets(0, 1, 0, 2), 3);
        Due.due("10 no out holds", x.meets(0, 2, 0, 2), -5);
        Due.due("10 nor does it meet", x.meets(0, 2, 0, 0), 0);
    }
}

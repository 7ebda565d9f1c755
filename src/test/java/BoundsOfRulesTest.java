/** The boundary cases of promises 7 to 10, on both sides of each. */
public final class BoundsOfRulesTest {
    private BoundsOfRulesTest() {
    }

    public static void main(String[] args) {
        bytesOfACall();
        highestByteFirst();
        aHundredBytes();
        refusalsOfFeed();
        landsOfRules();
        tenRules();
        theTextIsEmptyThen();
        oneToSixClauses();
        figures();
        withinFourOthers();
        textsThatEndTooEarly();
        everyByteAtEveryPlace();
        theLongestText();
        figuresBeyondWhatThereIs();
        heardBeforeAboutABound();
        noneWasHeardElsewhere();
        needsOfFacts();
        judge();
        judgeOfTen();
        meetsNumbers();
        meetsOrNot();
        Due.finish();
    }

    // ---- 7: feed

    private static void bytesOfACall() {
        for (int n = 0; n <= 4; n++) {
            HeardWords x = new HeardWords();
            Due.due("7 bytes of a call: " + n, x.feed(-1, n), n);
            Due.due("7 as many again", x.feed(0, n), 2 * n);
            Due.due("7 count", x.count(2), 2 * n);
        }
        for (int bad : Bounds.outside(5)) {
            HeardWords x = new HeardWords();
            x.feed(0, 2);
            Due.due("7 no n " + bad, x.feed(0, bad), Bounds.BAD);
            Due.due("7 none came", x.count(2), 2);
        }
    }

    private static void highestByteFirst() {
        String text = "in k=0";
        for (int n = 1; n <= 4; n++) {
            for (int above : new int[] {0, -1, 'x', 0x80}) {
                HeardWords x = Bounds.words(0, 1);
                for (int from = 0; from < text.length(); from += n) {
                    int many = Math.min(n, text.length() - from);
                    int bytes = above;
                    for (int i = 0; i < many; i++) {
                        bytes = bytes << 8 | text.charAt(from + i);
                    }
                    x.feed(bytes, many);
                }
                Due.due("7 the lowest " + n + " below " + above, x.rule(0), 0);
                Due.due("7 as it was fed", x.meets(0, 0, 0, 0), 1);
            }
        }
        HeardWords x = new HeardWords();
        x.feed('o' | 'u' << 8 | 't' << 16 | ' ' << 24, 4);
        Due.due("7 the lowest is not the first", x.rule(0), -10);
    }

    private static HeardWords withBytes(int n) {
        HeardWords x = new HeardWords();
        for (int left = n; left > 0; left -= Math.min(left, 4)) {
            x.feed(0, Math.min(left, 4));
        }
        return x;
    }

    private static void aHundredBytes() {
        for (int has = 94; has <= 100; has++) {
            for (int n = 0; n <= 4; n++) {
                HeardWords x = withBytes(has);
                boolean fits = has + n <= 100;
                Due.due("7 " + n + " behind " + has, x.feed(7, n), fits ? has + n : Bounds.FULL);
                Due.due("7 there are", x.count(2), fits ? has + n : has);
            }
            HeardWords x = withBytes(has);
            Due.due("7 BAD ahead of FULL", x.feed(0, 5), Bounds.BAD);
            Due.due("7 BAD ahead of FULL", x.feed(0, -1), Bounds.BAD);
            Due.due("7 BAD ahead of FULL", x.feed(0, Bounds.MAX), Bounds.BAD);
            Due.due("7 still", x.count(2), has);
        }
    }

    /** What is refused as FULL is not put behind the text in part. */
    private static void refusalsOfFeed() {
        HeardWords x = Bounds.words(0, 1);
        String text = "in k=0" + "|k=1".repeat(23);
        Bounds.feed(x, text);
        Due.due("7 98 bytes", x.count(2), 98);
        Due.due("7 three more", x.feed(';' << 16, 3), Bounds.FULL);
        Due.due("7 the text is as it was", x.rule(0), 0);
        Bounds.feed(x, text);
        Due.due("7 two more", x.feed('|' << 8 | 'k', 2), 100);
        Due.due("7 they are at its end", x.rule(0), -110);
    }

    // ---- 8: rule

    private static void landsOfRules() {
        HeardWords x = Bounds.words(0, 1);
        for (int none : Bounds.outside(2)) {
            Due.due("8 no land " + none, x.rule(none), Bounds.NONE);
        }
        Bounds.feed(x, "out k=0");
        for (int none : Bounds.outside(2)) {
            Due.due("8 no land " + none, x.rule(none), Bounds.NONE);
            Due.due("8 the text stays", x.count(2), 7);
        }
        Due.due("8 no rules", x.count(1), 0);
        Due.due("8 land 1", x.rule(1), 0);
        Due.due("8 not of land 0", x.heard(0, 0, 0), 1);
        Due.due("8 of land 1", x.heard(0, 0, 1), 0);
        Due.due("8 land 0", Bounds.rule(x, 0, "out k=0"), 1);
        Due.due("8 of land 0", x.heard(0, 0, 0), 0);
        Due.due("8 one of them", x.count(3), 1);
    }

    private static void tenRules() {
        HeardWords x = Bounds.words(0, 1);
        for (int i = 0; i < 10; i++) {
            Due.due("8 rule " + i, Bounds.rule(x, i % 2, i < 9 ? "out k=1" : "out k=0"), i);
            Due.due("8 rules", x.count(1), i + 1);
            Due.due("8 the next isn't there", x.hangs(i + 1), Bounds.NONE);
        }
        Due.due("8 the last keeps out", x.why(0, 0, 1), 9);
        Bounds.feed(x, "in k=0");
        Due.due("8 an eleventh", x.rule(1), Bounds.FULL);
        Due.due("8 the text stays", x.count(2), 6);
        Due.due("8 NONE ahead of FULL", x.rule(2), Bounds.NONE);
        Due.due("8 the text stays", x.count(2), 6);
        Due.due("8 ten", x.count(1), 10);
        Due.due("8 it is none", x.meets(10, 0, 0, 0), Bounds.NONE);
        HeardWords y = new HeardWords();
        for (int i = 0; i < 10; i++) {
            Bounds.rule(y, 0, "in k=1");
        }
        Due.due("8 FULL ahead of the fault of no text", y.rule(0), Bounds.FULL);
        y.feed('x', 1);
        Due.due("8 FULL ahead of a fault", y.rule(0), Bounds.FULL);
        Due.due("8 the faulty text stays", y.count(2), 1);
    }

    private static void theTextIsEmptyThen() {
        HeardWords x = new HeardWords();
        Due.due("8 a rule", Bounds.rule(x, 0, "out k=1"), 0);
        Due.due("8 the text is empty", x.count(2), 0);
        Due.due("8 no text", x.rule(0), -10);
        Due.due("8 a fault", Bounds.rule(x, 0, "out k=1 "), -17);
        Due.due("8 the text is empty", x.count(2), 0);
        Due.due("8 a fault makes no rule", x.count(1), 1);
        Due.due("8 nothing of it is left", Bounds.rule(x, 0, "in k=1"), 1);
        Due.due("8 the text may have 100 again", withBytesIn(x, 100), 100);
    }

    private static int withBytesIn(HeardWords x, int n) {
        for (int i = 0; i < n; i += 4) {
            x.feed(0, 4);
        }
        return x.count(2);
    }

    private static void oneToSixClauses() {
        for (int n = 1; n <= 6; n++) {
            HeardWords x = new HeardWords();
            Due.due("8 clauses " + n, Bounds.rule(x, 0, Bounds.clauses(n)), 0);
            HeardWords y = new HeardWords();
            int end = 8 * n - 1;
            int due = n < 6 ? -10 - end - 1 : -10 - end;
            Due.due("8 clauses " + n + " and a ;", Bounds.rule(y, 0, Bounds.clauses(n) + ";"), due);
            Due.due("8 clauses " + n + " and ;;", Bounds.rule(y, 0, Bounds.clauses(n) + ";;"), due);
            Due.due("8 clauses " + n + " and more", Bounds.rule(y, 0, Bounds.clauses(n) + "o"), -10 - end);
        }
        HeardWords x = new HeardWords();
        Due.due("8 no clause", Bounds.rule(x, 0, ""), -10);
        Due.due("8 none ahead of ;", Bounds.rule(x, 0, ";out k=1"), -10);
        Due.due("8 seven", Bounds.rule(x, 0, Bounds.clauses(7)), -10 - 47);
        HeardWords y = Bounds.words(0, 1);
        Bounds.rule(y, 0, "out k=0;in k=1;in k=1;in k=1;in k=1;in k=0");
        Due.due("8 the sixth counts", y.meets(0, 0, 0, 2), 5);
    }

    private static void figures() {
        String[] texts = {"need # k=1", "in k<#", "in k=#", "in k>#", "in u=#", "in b=#", "in c=#", "in e=#", "in s=#",
            "in h<#", "in h=#", "in h>#"};
        for (String text : texts) {
            int at = text.indexOf('#');
            for (char c = '/'; c <= ':'; c++) {
                HeardWords x = new HeardWords();
                boolean figure = c >= '0' && c <= '9';
                Due.due("8 " + text + " with " + c, Bounds.rule(x, 0, text.replace('#', c)), figure ? 0 : -10 - at);
            }
            HeardWords x = new HeardWords();
            Due.due("8 two figures in " + text, Bounds.rule(x, 0, text.replace("#", "00")), -10 - at - 1);
            Due.due("8 no figure in " + text, Bounds.rule(x, 0, text.replace("#", "")), -10 - at);
        }
    }

    /** Four may stand about a test, a fifth is none: in each row of ( and !. */
    private static void withinFourOthers() {
        for (int n = 1; n <= 6; n++) {
            for (int row = 0; row < 1 << n; row++) {
                StringBuilder opened = new StringBuilder("in ");
                StringBuilder closed = new StringBuilder();
                for (int i = 0; i < n; i++) {
                    boolean bracket = (row >> i & 1) == 0;
                    opened.append(bracket ? '(' : '!');
                    closed.append(bracket ? ")" : "");
                }
                HeardWords x = new HeardWords();
                String text = opened + "k=0" + closed;
                Due.due("8 " + text, Bounds.rule(x, 0, text), n <= 4 ? 0 : -10 - 7);
                String second = "in k=0&k=1|" + text.substring(3);
                HeardWords y = new HeardWords();
                Due.due("8 " + second, Bounds.rule(y, 0, second), n <= 4 ? 0 : -10 - 15);
            }
        }
        HeardWords x = Bounds.words(0, 1);
        Due.due("8 beside, not within", Bounds.rule(x, 0, "in !!!!k=0&!!!!k=0|((((k=1))))&((((k=1))))"), 0);
        Due.due("8 it holds", x.meets(0, 0, 0, 0), 1);
        Due.due("8 within four, then out of one", Bounds.rule(x, 0, "in (((!k=1)&!k=1)&!k=1)&!k=1"), 1);
        Due.due("8 within three, then one more", Bounds.rule(x, 0, "in (((k=0&!k=1)))"), 2);
        Due.due("8 within four", Bounds.rule(x, 0, "in ((((k=0&!k=1))))"), -10 - 11);
        Due.due("8 a ! is over behind its test", Bounds.rule(x, 0, "in (((!k=0|!k=1)))"), 3);
        Due.due("8 but not ahead of its bracket's end", Bounds.rule(x, 0, "in !(!(k=0|!k=1))"), -10 - 11);
    }

    /** The fault of a text that ends too early is its end, and what is a rule already is none. */
    private static void textsThatEndTooEarly() {
        String text = "out !(k<1|u=2)&b=3;in c=4&(e=0|s=5);need 6 h>7;may !h=8";
        for (int n = 0; n <= text.length(); n++) {
            HeardWords x = new HeardWords();
            Model m = new Model();
            String some = text.substring(0, n);
            boolean whole = some.endsWith(")&b=3") || some.endsWith("c=4") || some.endsWith("s=5)")
                || some.endsWith("h>7") || some.endsWith("h=8") || some.endsWith("u=2)");
            int due = whole ? 0 : -10 - n;
            Due.due("8 ends early: " + some, Bounds.rule(x, 0, some), due);
            for (char c : some.toCharArray()) {
                m.feed(c, 1);
            }
            Due.due("8 so says the model: " + some, m.rule(0), due);
        }
    }

    private static void everyByteAtEveryPlace() {
        String[] texts = {"out !(k<1|u=2)&b=3", "need 6 ((h>7))", "may !!!!s=0;in e=1", "in ((((k=1)))|c=2)"};
        for (String text : texts) {
            for (int at = 0; at <= text.length(); at++) {
                for (int b = 0; b < 256; b++) {
                    String rest = at < text.length() ? text.substring(at + 1) : "";
                    spoiled(text.substring(0, at) + (char) b + rest);
                }
            }
        }
    }

    private static void spoiled(String text) {
        HeardWords x = new HeardWords();
        Model m = new Model();
        for (int i = 0; i < text.length(); i++) {
            m.feed(text.charAt(i), 1);
        }
        Due.due("8 fault of " + text, Bounds.rule(x, 0, text), m.rule(0));
    }

    private static void theLongestText() {
        String longest = "out k=1" + "&k=1".repeat(22) + "&!k=1";
        HeardWords x = Bounds.words(1, 1);
        Due.due("8 a hundred bytes", longest.length(), 100);
        Due.due("8 a hundred bytes are a rule", Bounds.rule(x, 0, longest), 0);
        Due.due("8 the last of them counts", x.meets(0, 0, 0, 1), 0);
        Due.due("8 without it", Bounds.rule(x, 0, longest.replace("!", "")), 1);
        Due.due("8 without it", x.meets(1, 0, 0, 1), 1);
        Due.due("8 the end of a hundred", Bounds.rule(x, 0, longest.replace("&!k=1", "|k=1&")), -110);
        Due.due("8 the last of a hundred", Bounds.rule(x, 0, longest.substring(0, 99) + ";"), -109);
        Due.due("8 the one ahead of it", Bounds.rule(x, 0, longest.substring(0, 98) + "x1"), -108);
        String deep = "in !((" + "!k=1|k=2&".repeat(9) + "k=3))";
        Due.due("8 four deep, nine times", Bounds.rule(x, 0, deep), 2);
        Due.due("8 five deep at last", Bounds.rule(x, 0, deep.substring(0, 78) + "!" + deep.substring(78)), -10 - 79);
    }

    // ---- 10: tests about their bounds

    private static int meets(HeardWords x, int word, int end, String test) {
        int rule = Bounds.rule(x, 0, "in " + test);
        return x.meets(rule, word, end, 0);
    }

    /** Figures for which there is no kind, person, bit or end never hold. */
    private static void figuresBeyondWhatThereIs() {
        for (int n = 0; n < 10; n++) {
            int of7 = 0;
            int of8 = 0;
            int of4 = 0;
            int known = 0;
            for (int i = 0; i < 8; i++) {
                HeardWords x = new HeardWords();
                x.word(Math.min(i, 6), i, 0);
                x.known(i, 63);
                of7 += meets(x, 0, 0, "k=" + n);
                of8 += meets(x, 0, 0, "b=" + n);
                known += meets(x, 0, 0, "c=" + n);
                if (i < 4) {
                    of4 += meets(x, 0, i, "e=" + n);
                }
            }
            Due.due("10 k=" + n, of7, n > 6 ? 0 : n == 6 ? 2 : 1);
            Due.due("10 b=" + n, of8, n < 8 ? 1 : 0);
            Due.due("10 c=" + n, known, n < 6 ? 8 : 0);
            Due.due("10 e=" + n, of4, n < 4 ? 1 : 0);
        }
    }

    /** Of five words by one person in an order 0 to 4 are heard before: a test of the last one holds or doesn't. */
    private static void heardBeforeAboutABound() {
        for (int before = 0; before < 5; before++) {
            for (int n = 0; n < 10; n++) {
                int told = (1 << before + 1) - 1;
                Due.due("10 h<" + n + " behind " + before, lastComes(before, "h<" + n, told), before < n ? 1 : 0);
                Due.due("10 h=" + n + " behind " + before, lastComes(before, "h=" + n, told), before == n ? 1 : 0);
                Due.due("10 h>" + n + " behind " + before, lastComes(before, "h>" + n, told), before > n ? 1 : 0);
            }
        }
    }

    /** Whether the greatest of the told words can come last if it needs a test to hold: a fact makes it the last. */
    private static int lastComes(int last, String test, int told) {
        HeardWords x = new HeardWords();
        for (int i = 0; i <= last; i++) {
            x.word(i == last ? 1 : 0, 5, 1 << i);
        }
        StringBuilder all = new StringBuilder();
        for (int i = 0; i < last; i++) {
            all.append("s=").append(i).append('&');
        }
        Bounds.rule(x, 0, "out k=1;in " + all + test);
        return x.plan(told, 0, -1);
    }

    /** But for PLAN and OPENED none was heard before, though all words are heard and by one person. */
    private static void noneWasHeardElsewhere() {
        HeardWords x = new HeardWords();
        x.word(0, 0, 1);
        x.word(2, 0, 2);
        x.hold(1, 0);
        Bounds.rule(x, 0, "out h>0;in h>0&k=1");
        Bounds.rule(x, 0, "may h>0;need 9 !h=0");
        Bounds.rule(x, 1, "out h<1;in h>1");
        x.tape(0, 0, 4);
        for (int i = 0; i < 4; i++) {
            x.item(0, i, -1);
        }
        for (int again = 0; again < 2; again++) {
            Due.due("10 no rule meets it", x.meets(0, 1, 0, 0), 0);
            Due.due("11 heard", x.heard(1, 0, 0), 1);
            Due.due("12 not kept out", x.why(1, 0, 0), Bounds.MISSING);
            Due.due("13 heard", x.least(1, 0, 0, 0), 0);
            Due.due("14 to all ends", x.ends(1, 0), 15);
            Due.due("14 to none", x.ends(1, 1), 0);
            Due.due("15 nothing to cut", x.cut(1, 0, 0, 0), 0);
            Due.due("17 both", x.proved(0), 3);
            Due.due("17 none", x.proved(1), 0);
            Due.due("18 the first", x.needed(1, 0), 1);
            Due.due("20 no clash", x.clash(0, 0, 0), 0);
            Due.due("21 all are silent", x.silent(0, 0), 3);
            Due.due("21 none is silent", x.silent(0, 1), 0);
            Due.due("22 nothing hangs on it", x.hangs(1), 0);
            Due.due("24 land 0 alone", x.beside(0, 0), 3);
            Due.due("25 no way", x.way(0, 0, 1, 0, 0), 4);
            Due.due("16 in OPENED one was", x.opened(0, 0), 0);
            Due.due("19 in PLAN one was", x.plan(3, 0, -1), 0);
        }
    }

    private static void needsOfFacts() {
        for (int fact = 0; fact < 10; fact++) {
            HeardWords x = Bounds.words(0, 1);
            Bounds.rule(x, 0, "need " + fact + " k=0");
            Due.due("10 none is shown " + fact, x.meets(0, 0, 0, 1), 1);
            x.show(1023 - (1 << fact));
            Due.due("10 all but that " + fact, x.meets(0, 0, 0, 1), 1);
            x.show(1 << fact);
            Due.due("10 that alone " + fact, x.meets(0, 0, 0, 1), 0);
        }
    }

    // ---- 9: judge

    private static void judge() {
        for (int n = 0; n <= 10; n++) {
            HeardWords x = new HeardWords();
            for (int i = 0; i < n; i++) {
                Bounds.rule(x, i % 2, "may k=0");
            }
            int all = (1 << n) - 1;
            Due.due("9 all of " + n, x.judge(all), 0);
            for (int bad : Bounds.outside(1 << n)) {
                Due.due("9 of none such " + bad + " of " + n, x.judge(bad), Bounds.BAD);
            }
            Due.due("9 as it was with " + n, x.judge(0), all);
            Due.due("9 none", x.judge(0), 0);
        }
    }

    private static void judgeOfTen() {
        HeardWords x = Bounds.words(0, 1);
        for (int i = 0; i < 10; i++) {
            Bounds.rule(x, 1, "may k=0");
        }
        for (int i = 0; i < 10; i++) {
            Due.due("9 keeps out at first " + i, x.meets(i, 0, 0, 1), 1);
            x.judge(1 << i);
            Due.due("9 lets in " + i, x.meets(i, 0, 0, 1), 0);
            Due.due("9 the first that keeps out", x.why(0, 0, 1), i == 0 ? 1 : 0);
            x.judge(1023 - (1 << i));
            Due.due("9 keeps out " + i, x.why(0, 0, 1), i);
            x.judge(0);
        }
        x.judge(1023);
        Due.due("9 lets in by all", x.heard(0, 0, 1), 1);
    }

    // ---- 10: meets

    private static void meetsNumbers() {
        HeardWords x = Bounds.words(0, 14);
        for (int i = 0; i < 10; i++) {
            Bounds.rule(x, 0, "out k=0;in e=3");
        }
        for (int none : Bounds.outside(10)) {
            Due.due("10 no rule " + none, x.meets(none, 0, 0, 0), Bounds.NONE);
        }
        for (int none : Bounds.outside(14)) {
            Due.due("10 no word " + none, x.meets(0, none, 0, 0), Bounds.NONE);
        }
        for (int none : Bounds.outside(4)) {
            Due.due("10 no end " + none, x.meets(0, 0, none, 0), Bounds.NONE);
        }
        for (int none : Bounds.outside(3)) {
            Due.due("10 no what " + none, x.meets(0, 0, 0, none), Bounds.NONE);
        }
        Due.due("10 the first of all", x.meets(0, 0, 0, 0), 1);
        Due.due("10 the last of all", x.meets(9, 13, 3, 0), 1);
        Due.due("10 it isn't kept out", x.meets(9, 13, 3, 1), 0);
        Due.due("10 to end 2 it is", x.meets(9, 13, 2, 1), 1);
        Due.due("10 its way", x.meets(9, 13, 3, 2), 1);
        Due.due("10 no way to end 2", x.meets(9, 13, 2, 2), Bounds.MISSING);
    }

    /** A clause of each sort alone, where its condition holds (word 0) and where it doesn't (word 1). */
    private static void meetsOrNot() {
        String[] sorts = {"out ", "in ", "need 3 ", "may "};
        int[] keepsOut = {1, 0, 1, 1};
        for (int i = 0; i < 4; i++) {
            HeardWords x = Bounds.words(0, 2);
            Bounds.rule(x, 0, sorts[i] + "b=0");
            Due.due("10 meets by " + sorts[i], x.meets(0, 0, 0, 0), 1);
            Due.due("10 doesn't meet by " + sorts[i], x.meets(0, 1, 0, 0), 0);
            Due.due("10 keeps out by " + sorts[i], x.meets(0, 0, 0, 1), keepsOut[i]);
            Due.due("10 doesn't keep out by " + sorts[i], x.meets(0, 1, 0, 1), 0);
            Due.due("10 no way by " + sorts[i], x.meets(0, 0, 0, 2), Bounds.MISSING);
            x.show(8);
            x.judge(1);
            Due.due("10 with fact and judge, by " + sorts[i], x.meets(0, 0, 0, 1), i == 0 ? 1 : 0);
            Due.due("10 it is met by " + sorts[i], x.meets(0, 0, 0, 0), 1);
        }
        HeardWords x = Bounds.words(0, 1);
        Bounds.rule(x, 0, "in k=0;out k=0");
        Due.due("10 clause 0 is a way", x.meets(0, 0, 0, 2), 0);
        Bounds.rule(x, 0, "need 0 k=0;need 1 k=0;may k=0;in k=1;out k=0;in k=0");
        Due.due("10 clause 5 is a way", x.meets(1, 0, 0, 2), 5);
    }
}

/** Promises 20 to 24: clash, silent, hangs, most, beside. */
public final class JudgeAndLandsTest {
    private JudgeAndLandsTest() {
    }

    public static void main(String[] args) {
        clash();
        silent();
        hangs();
        hangsThroughParts();
        hangsWithWhatIsShown();
        most();
        beside();
        Due.finish();
    }

    private static void clash() {
        HeardWords x = new HeardWords();
        x.word(0, 0, 0);
        x.word(2, 1, 0);
        x.hold(1, 0);
        Due.due("20 no rules", x.clash(0, 0, 0), 0);
        Due.rule(x, 0, "out b=0");
        Due.rule(x, 0, "in b=0");
        Due.due("20 one pair", x.clash(0, 0, 0), 1);
        Due.due("20 the layer alone", x.clash(1, 0, 0), 0);
        Due.rule(x, 0, "in b=0;need 3 b=0");
        Due.due("20 one keeps out that has an in, too", x.clash(0, 0, 0), 2);
        Due.rule(x, 0, "out b=0;in e=0");
        Due.due("20 two by two", x.clash(0, 0, 0), 4);
        Due.due("20 to end 1 that one keeps out", x.clash(0, 1, 0), 3);
        Due.rule(x, 1, "in b=0");
        Due.rule(x, 1, "may b=0");
        Due.due("20 no rule of another land", x.clash(0, 0, 0), 4);
        Due.due("20 land 1", x.clash(0, 0, 1), 1);
        x.judge(32);
        Due.due("20 let in", x.clash(0, 0, 1), 0);
        x.show(8);
        Due.due("20 three ins", x.clash(0, 0, 0), 3);
        clashOfIns();
        Due.due("20 word", x.clash(2, 0, 0), -1);
        Due.due("20 word", x.clash(-1, 0, 0), -1);
        Due.due("20 end", x.clash(0, 4, 0), -1);
        Due.due("20 end", x.clash(0, -1, 0), -1);
        Due.due("20 land", x.clash(0, 0, 2), -1);
        Due.due("20 land", x.clash(0, 0, -1), -1);
    }

    private static void clashOfIns() {
        HeardWords x = new HeardWords();
        x.word(0, 0, 0);
        Due.rule(x, 0, "out b=0");
        Due.rule(x, 0, "in b=1;need 2 b=0");
        Due.rule(x, 0, "may b=0");
        x.judge(4);
        x.show(4);
        Due.due("20 no in that holds", x.clash(0, 0, 0), 0);
        Due.rule(x, 0, "out b=3;in b=1|b=0");
        Due.due("20 an in that overcomes no out", x.clash(0, 0, 0), 1);
    }

    private static void silent() {
        HeardWords x = new HeardWords();
        Due.due("21 no words", x.silent(0, 0), 0);
        x.word(0, 0, 0);
        x.word(6, 1, 0);
        x.word(3, 2, 0);
        x.hold(1, 0);
        Due.due("21 no rules", x.silent(3, 1), 7);
        Due.rule(x, 0, "in k=6;may b=0&e=2");
        Due.due("21 met by an in", x.silent(0, 0), 5);
        Due.due("21 met by a may", x.silent(2, 0), 4);
        Due.rule(x, 0, "need 1 k=3");
        Due.due("21 met by a need", x.silent(0, 0), 1);
        x.show(2);
        Due.due("21 by one that is shown, too", x.silent(0, 0), 1);
        Due.due("21 land 1", x.silent(0, 1), 7);
        Due.due("21 end", x.silent(4, 0), -1);
        Due.due("21 end", x.silent(-1, 0), -1);
        Due.due("21 land", x.silent(0, 2), -1);
        Due.due("21 land", x.silent(0, -1), -1);
    }

    private static void hangs() {
        HeardWords x = new HeardWords();
        Due.due("22 no such rule", x.hangs(0), -1);
        x.word(0, 0, 0);
        x.word(0, 1, 0);
        Due.rule(x, 0, "out b=9");
        Due.rule(x, 1, "may b=0");
        Due.rule(x, 1, "may b=0&e=3;may b=1&e=0");
        Due.rule(x, 1, "out b=1&e=0");
        Due.due("22 no may", x.hangs(0), 0);
        Due.due("22 three ends, as the other rule keeps out of the fourth", x.hangs(1), 3);
        Due.due("22 kept out anyway", x.hangs(2), 0);
        x.judge(4);
        Due.due("22 four ends", x.hangs(1), 4);
        x.judge(2);
        Due.due("22 the fourth end", x.hangs(2), 1);
        x.judge(6);
        Due.due("22 let in already", x.hangs(1), 4);
        Due.due("22 asking doesn't let in or keep out", x.judge(0), 6);
        Due.due("22 rule", x.hangs(4), -1);
        Due.due("22 rule", x.hangs(-1), -1);
        Due.due("22 rule", x.hangs(Integer.MIN_VALUE), -1);
    }

    private static void hangsThroughParts() {
        HeardWords x = new HeardWords();
        x.word(0, 0, 0);
        x.word(2, 1, 0);
        x.word(6, 2, 0);
        x.hold(1, 0);
        x.hold(2, 1);
        Due.rule(x, 0, "may b=0&e=0");
        Due.due("22 itself to end 0, the others to all but end 1", x.hangs(0), 1 + 3 + 3);
        Due.rule(x, 0, "may b=2;in h=0");
        Due.due("22 the last is kept out", x.hangs(0), 4);
        Due.due("22 to end 1 alone", x.hangs(1), 1);
    }

    private static void hangsWithWhatIsShown() {
        HeardWords x = new HeardWords();
        x.word(0, 0, 0);
        x.word(6, 1, 0);
        x.hold(1, 0);
        Due.rule(x, 0, "may b=0&s=1;need 2 k<9;out h>0");
        Due.due("22 kept out by what isn't shown", x.hangs(0), 0);
        x.show(4);
        Due.due("22 it doesn't hold", x.hangs(0), 0);
        x.show(6);
        Due.due("22 all of word 0, and what holds it but for end 1", x.hangs(0), 4 + 3);
        Due.rule(x, 0, "may b=1");
        Due.due("22 with another one's leave", x.hangs(0), 4);
        x.judge(2);
        Due.due("22 with it", x.hangs(0), 7);
    }

    private static void most() {
        HeardWords x = new HeardWords();
        x.word(0, 0, 0);
        Due.due("23 no rules", x.most(), -5);
        Due.rule(x, 0, "out b=0");
        Due.due("23 nothing hangs on any", x.most(), 0);
        Due.rule(x, 0, "out b=1");
        Due.due("23 the least", x.most(), 0);
        Due.rule(x, 1, "may e=3");
        Due.due("23 one pair", x.most(), 2);
        Due.rule(x, 1, "may e=2");
        Due.due("23 the least of two", x.most(), 2);
        Due.rule(x, 1, "may e=2|e=1");
        Due.due("23 on the last hangs one", x.hangs(4), 1);
        x.judge(8);
        Due.due("23 two pairs", x.most(), 4);
    }

    private static void beside() {
        HeardWords x = new HeardWords();
        for (int i = 0; i < 4; i++) {
            x.word(0, i, 0);
        }
        Due.due("24 both", x.beside(0, 2), 15);
        Due.rule(x, 0, "out b=0|b=3&e=0");
        Due.rule(x, 1, "out b=1;out b=3&e=0");
        Due.due("24 land 0 alone", x.beside(0, 0), 2);
        Due.due("24 land 1 alone", x.beside(0, 1), 1);
        Due.due("24 both", x.beside(0, 2), 4);
        Due.due("24 both to end 1", x.beside(1, 2), 12);
        x.word(2, 4, 0);
        x.hold(4, 0);
        Due.due("24 with its parts", x.beside(2, 1), 1 + 16);
        Due.due("24 its parts to end 0", x.beside(3, 2), 4 + 8);
        Due.due("24 without its parts", x.beside(1, 2), 4 + 8 + 16);
        Due.due("24 end", x.beside(4, 0), -1);
        Due.due("24 end", x.beside(-1, 0), -1);
        Due.due("24 what", x.beside(0, 3), -1);
        Due.due("24 what", x.beside(0, -1), -1);
    }
}

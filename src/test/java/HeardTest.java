/** Promises 11 to 16: heard, why, least, ends, cut, opened. */
public final class HeardTest {
    private HeardTest() {
    }

    public static void main(String[] args) {
        heardLayerByLayer();
        heardOfLands();
        why();
        whyInOrder();
        least();
        leastRivals();
        ends();
        cut();
        cutSharedParts();
        opened();
        openedByPerson();
        wrongNumbers();
        Due.finish();
    }

    /** 0 SAID by 0, 1 WRITTEN by 1 holding 0, 2 COPY by 2 holding 1, 3 TOLD by 3 holding 2. */
    private static HeardWords chain() {
        HeardWords x = new HeardWords();
        x.word(1, 0, 1);
        x.word(2, 1, 2);
        x.word(5, 2, 4);
        x.word(6, 3, 8);
        x.hold(1, 0);
        x.hold(2, 1);
        x.hold(3, 2);
        return x;
    }

    private static void heardLayerByLayer() {
        HeardWords x = chain();
        Due.due("11 no rules", x.heard(3, 0, 0), 1);
        Due.rule(x, 0, "out b=0&e=0");
        for (int word = 0; word < 4; word++) {
            Due.due("11 kept out down below " + word, x.heard(word, 0, 0), 0);
            Due.due("11 parts are not asked about at end 1 " + word, x.heard(word, 1, 0), 1);
        }
        Due.due("11 the word itself to end 2", x.heard(0, 2, 0), 1);
        Due.due("11 but parts are offered to end 0", x.heard(1, 2, 0), 0);
        Due.due("11 and with end 3", x.heard(3, 3, 0), 0);
        HeardWords y = chain();
        Due.rule(y, 0, "out e=1&b=3");
        Due.due("11 a rule of end 1", y.heard(3, 1, 0), 0);
        Due.due("11 is none of end 0", y.heard(3, 0, 0), 1);
        HeardWords z = chain();
        Due.rule(z, 0, "out e=2");
        Due.due("11 parts of end 2 aren't offered to end 2", z.heard(3, 2, 0), 0);
        Due.rule(z, 0, "in b=3");
        Due.due("11 another rule's in doesn't help", z.heard(3, 2, 0), 0);
    }

    private static void heardOfLands() {
        HeardWords x = chain();
        Due.rule(x, 1, "out b=0");
        Due.due("11 land 0", x.heard(0, 0, 0), 1);
        Due.due("11 land 1", x.heard(0, 0, 1), 0);
        Due.rule(x, 0, "out h>0");
        Due.due("11 none was heard before", x.heard(0, 0, 0), 1);
        Due.rule(x, 0, "out h=0");
        Due.due("11 none was heard before", x.heard(0, 0, 0), 0);
    }

    private static void why() {
        HeardWords x = chain();
        Due.due("12 heard", x.why(3, 0, 0), -5);
        Due.rule(x, 1, "out k<9");
        Due.rule(x, 0, "out b=0");
        Due.rule(x, 0, "out b=0|b=1");
        Due.rule(x, 0, "out b=1|b=2&e=1");
        Due.due("12 the first layer, the least rule of the land", x.why(3, 0, 0), 102);
        Due.due("12 itself", x.why(1, 0, 0), 102);
        Due.due("12 the least", x.why(0, 0, 0), 1);
        Due.due("12 end 1", x.why(2, 1, 0), 203);
        Due.due("12 end 1, no parts", x.why(3, 1, 0), -5);
        Due.due("12 land 1", x.why(3, 0, 1), 300);
        Due.due("12 end 2, its parts to end 0", x.why(2, 2, 0), 102);
    }

    private static void whyInOrder() {
        HeardWords x = new HeardWords();
        x.word(0, 1, 0);
        x.word(0, 2, 0);
        x.word(2, 3, 0);
        x.word(2, 0, 0);
        x.word(2, 0, 0);
        x.hold(2, 0);
        x.hold(3, 1);
        x.hold(3, 2);
        x.hold(4, 2);
        x.hold(4, 1);
        Due.rule(x, 0, "out b=1");
        Due.rule(x, 0, "out b=2");
        Due.due("12 the first part first", x.why(3, 0, 0), 101);
        Due.due("12 a part's parts ahead of the next part", x.why(4, 0, 0), 0);
        Due.rule(x, 0, "out b=3");
        Due.due("12 a part ahead of its own parts", x.why(4, 0, 0), 202);
        x.known(0, 1);
        Due.rule(x, 0, "out c=0");
        Due.due("12 the word ahead of its parts", x.why(4, 0, 0), 403);
    }

    private static void least() {
        HeardWords x = chain();
        Due.due("13 heard already", x.least(3, 0, 0, 0), 0);
        Due.due("13 the empty set is one", x.least(3, 0, 0, 1), 1);
        Due.rule(x, 0, "need 9 b=0;need 3 b=2");
        Due.due("13 both needs", x.least(3, 0, 0, 0), 512 + 8);
        Due.due("13 one such set", x.least(3, 0, 0, 1), 1);
        Due.due("13 of a part", x.least(1, 0, 0, 0), 512);
        Due.due("13 at end 1", x.least(2, 1, 0, 0), 8);
        x.show(8);
        Due.due("13 what is shown isn't in it", x.least(3, 0, 0, 0), 512);
        Due.due("13 asking shows nothing", x.show(8), 8);
        Due.rule(x, 0, "out b=3");
        Due.due("13 no set", x.least(3, 0, 0, 0), -5);
        Due.due("13 no set", x.least(3, 0, 0, 1), 0);
        Due.due("13 land 1", x.least(3, 0, 1, 0), 0);
    }

    private static void leastRivals() {
        HeardWords x = chain();
        Due.rule(x, 0, "out b=0;in s=5&s=1;in s=7&s=2;in s=9&s=8&s=0");
        Due.due("13 the least of two", x.least(0, 0, 0, 0), 32 + 2);
        Due.due("13 two rivals", x.least(0, 0, 0, 1), 2);
        Due.rule(x, 0, "out b=0&s=1");
        Due.due("13 a fact that harms", x.least(0, 0, 0, 0), 128 + 4);
        Due.due("13 one rival", x.least(0, 0, 0, 1), 1);
        Due.rule(x, 0, "out b=0&s=7");
        Due.due("13 three are needed", x.least(0, 0, 0, 0), 512 + 256 + 1);
        x.show(128);
        Due.due("13 what is shown stays shown", x.least(0, 0, 0, 0), -5);
        HeardWords y = chain();
        Due.rule(y, 0, "need 0 b=0;need 1 b=0;need 2 b=0;need 3 b=0;need 4 b=0;need 5 b=0");
        Due.rule(y, 0, "need 6 b=0;need 7 b=0;need 8 b=0;need 9 b=0");
        Due.due("13 all facts", y.least(3, 0, 0, 0), 1023);
        HeardWords z = chain();
        Due.rule(z, 0, "out b=0;in s=0|s=1|s=2|s=3|s=4|s=5|s=6|s=7|s=8|s=9");
        Due.due("13 any fact", z.least(3, 0, 0, 0), 1);
        Due.due("13 ten rivals", z.least(3, 0, 0, 1), 10);
        z.show(4);
        Due.due("13 none is needed", z.least(3, 0, 0, 1), 1);
        HeardWords j = chain();
        Due.rule(j, 0, "may b=0;need 3 b=0;out h>0");
        Due.due("13 kept out by the judge", j.least(0, 0, 0, 0), -5);
        j.judge(1);
        Due.due("13 let in by the judge", j.least(0, 0, 0, 0), 8);
    }

    private static void ends() {
        HeardWords x = chain();
        Due.due("14 all", x.ends(3, 0), 15);
        Due.rule(x, 0, "out b=0&!e=2");
        Due.due("14 to end 2 alone", x.ends(0, 0), 4);
        Due.due("14 with a part that isn't heard to end 0", x.ends(1, 0), 2);
        Due.due("14 land 1", x.ends(1, 1), 15);
        Due.rule(x, 1, "out e=3;out e=1");
        Due.due("14 land 1", x.ends(0, 1), 5);
    }

    /** 4 WRITTEN with facts 31 holds 0 to 3, by persons 0 to 3, with facts 1, 2, 4, 8. */
    private static HeardWords letter() {
        HeardWords x = new HeardWords();
        for (int i = 0; i < 4; i++) {
            x.word(0, i, 1 << i);
        }
        x.word(2, 4, 31);
        for (int i = 3; i >= 0; i--) {
            x.hold(4, i);
        }
        return x;
    }

    private static void cut() {
        HeardWords x = letter();
        Due.due("15 heard already", x.cut(4, 0, 0, 0), 0);
        Due.due("15 all is left", x.cut(4, 0, 0, 1), 31);
        Due.rule(x, 0, "out b=0|b=2&e=0");
        Due.due("15 places of parts", x.cut(4, 0, 0, 0), 8 + 2);
        Due.due("15 what is left", x.cut(4, 0, 0, 1), 31 - 1 - 4);
        Due.due("15 end 2", x.cut(4, 2, 0, 0), 8 + 2);
        Due.due("15 end 1", x.cut(4, 1, 0, 0), 0);
        Due.due("15 end 1", x.cut(4, 1, 0, 1), 31);
        Due.due("15 asking leaves nothing out", x.of(4, 3), 4);
        Due.rule(x, 0, "out b=4&!e=3");
        Due.due("15 no set", x.cut(4, 0, 0, 0), -5);
        Due.due("15 no set", x.cut(4, 0, 0, 1), -5);
        Due.due("15 no set at end 1", x.cut(4, 1, 0, 0), -5);
        Due.due("15 end 3", x.cut(4, 3, 0, 0), 8 + 2);
        Due.due("15 land 1", x.cut(4, 0, 1, 0), 0);
        cutOfTheWordItself();
        HeardWords y = letter();
        y.word(6, 5, 32);
        y.hold(5, 4);
        Due.rule(y, 1, "out b=3");
        Due.due("15 own parts only, with what they hold", y.cut(5, 0, 1, 0), 1);
        Due.due("15 facts that a part doesn't show", y.cut(5, 0, 1, 1), 32);
    }

    private static void cutOfTheWordItself() {
        HeardWords x = letter();
        Due.rule(x, 0, "out b=4");
        Due.due("15 no set, by rule 0", x.cut(4, 0, 0, 0), -5);
        Due.due("15 no set for what is left", x.cut(4, 0, 0, 1), -5);
    }

    private static void cutSharedParts() {
        HeardWords x = new HeardWords();
        x.word(0, 1, 1);
        x.word(2, 2, 2);
        x.word(2, 3, 7);
        x.hold(1, 0);
        x.hold(2, 0);
        x.hold(2, 1);
        Due.rule(x, 0, "out b=1");
        Due.due("15 both that bring it", x.cut(2, 0, 0, 0), 3);
        Due.due("15 own facts of those cut", x.cut(2, 0, 0, 1), 4);
    }

    private static void opened() {
        HeardWords x = new HeardWords();
        x.word(0, 0, 1);
        x.word(0, 1, 2);
        x.word(6, 2, 4);
        x.word(0, 3, 8);
        x.hold(2, 1);
        Due.rule(x, 0, "need 0 b=1");
        Due.rule(x, 0, "need 1 b=3");
        Due.due("16 those that its facts open, and what holds them", x.opened(0, 0), 2 + 4);
        Due.due("16 it isn't heard", x.opened(1, 0), -3);
        Due.due("16 it isn't heard", x.opened(2, 0), -3);
        Due.due("16 land 1", x.opened(1, 1), 0);
        x.show(1);
        Due.due("16 those that are heard aren't opened", x.opened(0, 0), 0);
        Due.due("16 its own facts", x.opened(1, 0), 8);
        Due.due("16 not those of its parts", x.opened(2, 0), 0);
        x.show(8);
        Due.due("16 what is shown stays shown", x.opened(0, 0), 6);
    }

    private static void openedByPerson() {
        HeardWords x = new HeardWords();
        x.word(0, 1, 0);
        x.word(0, 1, 0);
        x.word(6, 2, 0);
        x.word(0, 2, 0);
        x.hold(2, 0);
        Due.rule(x, 0, "out h=0&k=0&!b=2&s=5");
        Due.rule(x, 0, "out h<1&b=2&k=0");
        Due.rule(x, 1, "out h>0|k=6");
        Due.due("16 heard before of the same person", x.opened(2, 0), 8);
        Due.due("16 of another person", x.opened(0, 0), 0);
        Due.due("16 land 1: it isn't heard", x.opened(2, 1), -3);
        Due.due("16 land 1: itself isn't opened", x.opened(0, 1), 0);
        x.show(32);
        Due.due("16 to end 0, parts and all", x.opened(0, 0), -3);
        HeardWords y = new HeardWords();
        for (int i = 0; i < 4; i++) {
            y.word(0, i / 2, 1 << i);
        }
        y.word(0, 2, 0);
        Due.rule(y, 0, "may b=0;need 8 b=0|b=2;need 3 b=2;out h=0&b=0&s=7");
        Due.rule(y, 0, "out h=0&k=0&b=1&s=9");
        Due.due("16 with what the judge keeps out", y.opened(3, 0), 0);
        y.judge(1);
        Due.due("16 with what isn't shown", y.opened(3, 0), 0);
        y.show(256);
        Due.due("16 with what is shown and let in", y.opened(3, 0), 16);
        y.show(512 + 256 + 8);
        Due.due("16 itself isn't heard", y.opened(2, 0), -3);
        Due.due("16 another person's", y.opened(1, 0), 0);
        HeardWords z = new HeardWords();
        z.word(0, 0, 1);
        z.word(0, 1, 0);
        Due.rule(z, 0, "may b=1;need 0 b=1");
        Due.due("16 kept out by the judge", z.opened(0, 0), 0);
        z.judge(1);
        Due.due("16 let in by the judge", z.opened(0, 0), 2);
    }

    private static void wrongNumbers() {
        HeardWords x = chain();
        int[][] wrong = {{4, 0, 0}, {-1, 0, 0}, {0, 4, 0}, {0, -1, 0}, {0, 0, 2}, {0, 0, -1},
            {Integer.MAX_VALUE, 0, 0}, {0, Integer.MIN_VALUE, 0}, {0, 0, Integer.MAX_VALUE}};
        for (int[] w : wrong) {
            String told = w[0] + " " + w[1] + " " + w[2];
            Due.due("11 " + told, x.heard(w[0], w[1], w[2]), -1);
            Due.due("12 " + told, x.why(w[0], w[1], w[2]), -1);
            Due.due("13 " + told, x.least(w[0], w[1], w[2], 0), -1);
            Due.due("15 " + told, x.cut(w[0], w[1], w[2], 0), -1);
            if (w[1] == 0) {
                Due.due("14 " + told, x.ends(w[0], w[2]), -1);
                Due.due("16 " + told, x.opened(w[0], w[2]), -1);
            }
        }
        for (int what : new int[] {-1, 2, 99}) {
            Due.due("13 what " + what, x.least(0, 0, 0, what), -1);
            Due.due("15 what " + what, x.cut(0, 0, 0, what), -1);
        }
    }
}

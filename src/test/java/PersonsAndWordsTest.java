/** Promises 1 to 6: a new object, known, word, hold, of, show. */
public final class PersonsAndWordsTest {
    private PersonsAndWordsTest() {
    }

    public static void main(String[] args) {
        newObject();
        known();
        word();
        hold();
        of();
        show();
        Due.finish();
    }

    private static void newObject() {
        HeardWords x = new HeardWords();
        for (int what = 0; what < 5; what++) {
            Due.due("1 count " + what, x.count(what), 0);
        }
        for (int person = 0; person < 8; person++) {
            Due.due("1 known " + person, x.known(person, 0), 0);
        }
        for (int tape = 0; tape < 6; tape++) {
            Due.due("1 read " + tape, x.read(tape, 0), HeardWords.NO);
            Due.due("1 item " + tape, x.item(tape, 0, 1), -11);
        }
        Due.due("1 show", x.show(0), 0);
        Due.due("1 judge", x.judge(0), 0);
        Due.due("1 trace", x.trace(0), -1);
        Due.due("1 of", x.of(0, 0), -1);
        Due.due("1 most", x.most(), -5);
        Due.due("1 proved", x.proved(0), 0);
        HeardWords other = new HeardWords();
        x.word(0, 0, 1);
        x.show(5);
        Due.due("1 another object", other.count(0), 0);
        Due.due("1 another object's show", other.show(0), 0);
    }

    private static void known() {
        HeardWords x = new HeardWords();
        Due.due("2 known", x.known(7, 63), 0);
        Due.due("2 known again", x.known(7, 8), 63);
        Due.due("2 known takes the place of all", x.known(7, 1), 8);
        Due.due("2 of another person", x.known(0, 2), 0);
        Due.due("2 no such person", x.known(8, 2), -1);
        Due.due("2 no such person", x.known(-1, 2), -1);
        Due.due("2 NONE ahead of BAD", x.known(8, 64), -1);
        Due.due("2 bits", x.known(0, 64), -2);
        Due.due("2 bits", x.known(0, -1), -2);
        Due.due("2 bits", x.known(0, Integer.MIN_VALUE), -2);
        Due.due("2 what is answered BAD changes nothing", x.known(0, 0), 2);
        x.word(1, 3, 0);
        Due.rule(x, 0, "out c=4");
        Due.due("2 not known", x.heard(0, 0, 0), 1);
        x.known(3, 16);
        Due.due("2 known of the word's person", x.heard(0, 0, 0), 0);
    }

    private static void word() {
        HeardWords x = new HeardWords();
        Due.due("3 kind", x.word(7, 0, 0), -1);
        Due.due("3 kind", x.word(-1, 0, 0), -1);
        Due.due("3 person", x.word(0, 8, 0), -1);
        Due.due("3 person", x.word(0, -1, 0), -1);
        Due.due("3 NONE ahead of BAD", x.word(0, 8, 1024), -1);
        Due.due("3 facts", x.word(0, 0, 1024), -2);
        Due.due("3 facts", x.word(0, 0, -1), -2);
        Due.due("3 none has come", x.count(0), 0);
        for (int i = 0; i < 14; i++) {
            Due.due("3 word", x.word(i % 7, i % 8, 1023 - i), i);
        }
        Due.due("3 FULL", x.word(0, 0, 0), -4);
        Due.due("3 BAD ahead of FULL", x.word(0, 0, 1024), -2);
        Due.due("3 NONE ahead of FULL", x.word(7, 0, 0), -1);
        Due.due("3 still 14", x.count(0), 14);
    }

    private static void hold() {
        HeardWords x = new HeardWords();
        int[] kinds = {0, 1, 3, 4, 2, 5, 6, 2};
        for (int kind : kinds) {
            x.word(kind, 0, 0);
        }
        Due.due("4 no such word", x.hold(8, 0), -1);
        Due.due("4 no such word", x.hold(-1, 0), -1);
        Due.due("4 no such part", x.hold(4, 8), -1);
        Due.due("4 no such part", x.hold(4, -1), -1);
        Due.due("4 itself", x.hold(4, 4), -2);
        Due.due("4 a greater one", x.hold(4, 5), -2);
        Due.due("4 BAD ahead of CAST", x.hold(0, 1), -2);
        Due.due("4 SAID", x.hold(1, 0), -12);
        Due.due("4 FOUND", x.hold(2, 0), -12);
        Due.due("4 ACT", x.hold(3, 0), -12);
        for (int k = 0; k < 4; k++) {
            Due.due("4 WRITTEN", x.hold(4, 3 - k), k + 1);
            Due.due("4 COPY", x.hold(5, k + 1), k + 1);
        }
        Due.due("4 it has it", x.hold(4, 3), -3);
        Due.due("4 STATE ahead of FULL", x.hold(5, 4), -3);
        Due.due("4 FULL", x.hold(5, 0), -4);
        Due.due("4 TOLD", x.hold(6, 5), 1);
        Due.due("4 it has it", x.hold(6, 5), -3);
        Due.due("4 TOLD is FULL", x.hold(6, 4), -4);
        Due.due("4 four still", x.of(5, 3), 4);
        Due.due("4 one still", x.of(6, 3), 1);
        holdLater();
    }

    /** A part that comes to hold another one later is still asked about with that one. */
    private static void holdLater() {
        HeardWords x = new HeardWords();
        x.word(0, 1, 0);
        x.word(6, 2, 0);
        x.word(6, 3, 0);
        Due.rule(x, 0, "out b=1");
        x.hold(2, 1);
        Due.due("4 heard", x.heard(2, 0, 0), 1);
        x.hold(1, 0);
        Due.due("4 a part of a part", x.why(2, 0, 0), 0);
    }

    private static void of() {
        HeardWords x = new HeardWords();
        x.word(0, 7, 1023);
        x.word(3, 6, 5);
        x.word(2, 5, 9);
        x.hold(2, 1);
        x.hold(2, 0);
        Due.due("5 kind", x.of(2, 0), 2);
        Due.due("5 by", x.of(2, 1), 5);
        Due.due("5 facts", x.of(2, 2), 9);
        Due.due("5 facts", x.of(0, 2), 1023);
        Due.due("5 parts", x.of(2, 3), 2);
        Due.due("5 first part", x.of(2, 4), 1);
        Due.due("5 second part", x.of(2, 5), 0);
        Due.due("5 no third part", x.of(2, 6), -5);
        Due.due("5 no fourth part", x.of(2, 7), -5);
        Due.due("5 no part", x.of(0, 4), -5);
        Due.due("5 what", x.of(2, 8), -1);
        Due.due("5 what", x.of(2, -1), -1);
        Due.due("5 word", x.of(3, 0), -1);
        Due.due("5 word", x.of(-1, 0), -1);
    }

    private static void show() {
        HeardWords x = new HeardWords();
        x.word(0, 0, 0);
        Due.rule(x, 0, "need 9 k=0");
        Due.due("6 not heard", x.heard(0, 0, 0), 0);
        Due.due("6 show", x.show(1023), 0);
        Due.due("6 heard", x.heard(0, 0, 0), 1);
        Due.due("6 show takes the place of all", x.show(3), 1023);
        Due.due("6 not heard any more", x.heard(0, 0, 0), 0);
        Due.due("6 facts", x.show(1024), -2);
        Due.due("6 facts", x.show(-1), -2);
        Due.due("6 as it was", x.show(0), 3);
    }
}

/** The boundary cases of promises 1 to 6, on both sides of each. */
public final class BoundsOfWordsTest {
    private BoundsOfWordsTest() {
    }

    public static void main(String[] args) {
        aNewObjectHasNoWordsAndRules();
        aNewObjectAnswersNothing();
        persons();
        bitsOfPersons();
        bitsThatAreKnown();
        words();
        wordsAreFull();
        refusalsOfWordInTheirOrder();
        partsAreLesser();
        partsByKind();
        noPartTwice();
        refusalsOfHoldInTheirOrder();
        partsOfPartsToTheFourteenth();
        ofNumbers();
        ofParts();
        shown();
        Due.finish();
    }

    // ---- 1: nobody, nothing

    private static void aNewObjectHasNoWordsAndRules() {
        for (int w : new int[] {0, 1, 13, 14, -1, Bounds.MIN, Bounds.MAX}) {
            HeardWords x = new HeardWords();
            Due.due("1 of " + w, x.of(w, 0), Bounds.NONE);
            Due.due("1 hold " + w, x.hold(w, 0), Bounds.NONE);
            Due.due("1 heard " + w, x.heard(w, 0, 0), Bounds.NONE);
            Due.due("1 why " + w, x.why(w, 0, 0), Bounds.NONE);
            Due.due("1 least " + w, x.least(w, 0, 0, 0), Bounds.NONE);
            Due.due("1 ends " + w, x.ends(w, 0), Bounds.NONE);
            Due.due("1 cut " + w, x.cut(w, 0, 0, 0), Bounds.NONE);
            Due.due("1 opened " + w, x.opened(w, 0), Bounds.NONE);
            Due.due("1 clash " + w, x.clash(w, 0, 0), Bounds.NONE);
            Due.due("1 way of " + w, x.way(0, 0, w, 0, 0), Bounds.NONE);
            Due.due("1 act of " + w, x.act(w, 0, 7), 0);
            Due.due("1 taken " + w, x.taken(w, 0), Bounds.NOTHING);
            Due.due("1 hangs " + w, x.hangs(w), Bounds.NONE);
            Due.due("1 meets " + w, x.meets(w, 0, 0, 0), Bounds.NONE);
            Due.due("1 trace " + w, x.trace(w), Bounds.NONE);
        }
    }

    private static void aNewObjectAnswersNothing() {
        HeardWords x = new HeardWords();
        Due.due("1 most", x.most(), Bounds.MISSING);
        Due.due("1 a rule from no text", x.rule(0), -10);
        Due.due("1 no bytes", x.feed(0, 0), 0);
        for (int land = 0; land < 2; land++) {
            Due.due("1 proved", x.proved(land), 0);
            Due.due("1 needed for none", x.needed(0, land), 0);
            Due.due("1 needed for one", x.needed(1, land), Bounds.MISSING);
            Due.due("1 plan of none", x.plan(0, land, -1), Bounds.BAD);
            Due.due("1 plan of word 0", x.plan(1, land, -1), Bounds.BAD);
            for (int end = 0; end < 4; end++) {
                Due.due("1 silent", x.silent(end, land), 0);
                Due.due("1 beside", x.beside(end, land), 0);
            }
        }
        Due.due("1 none is let in", x.judge(0), 0);
        Due.due("1 nor shown", x.show(0), 0);
        for (int what = 0; what < 5; what++) {
            Due.due("1 count " + what, x.count(what), 0);
        }
        for (int tape = 0; tape < 6; tape++) {
            Due.due("1 tape " + tape, x.read(tape, 0), HeardWords.NO);
            Due.due("1 tape " + tape, x.item(tape, 0, 1), Bounds.NOTHING);
            Due.due("1 tape " + tape, x.shift(tape, 0, tape, 0, 0), Bounds.NOTHING);
        }
        for (int person = 0; person < 8; person++) {
            Due.due("1 person " + person, x.known(person, 0), 0);
        }
    }

    // ---- 2: known

    private static void persons() {
        HeardWords x = new HeardWords();
        for (int person = 0; person < 8; person++) {
            Due.due("2 person " + person, x.known(person, person + 1), 0);
        }
        for (int none : Bounds.outside(8)) {
            Due.due("2 no person " + none, x.known(none, 63), Bounds.NONE);
            Due.due("2 no person " + none + " ahead of BAD", x.known(none, 64), Bounds.NONE);
        }
        for (int person = 0; person < 8; person++) {
            Due.due("2 each has its own " + person, x.known(person, 0), person + 1);
        }
    }

    private static void bitsOfPersons() {
        HeardWords x = new HeardWords();
        int was = 0;
        for (int bits : new int[] {0, 1, 2, 4, 8, 16, 32, 62, 63}) {
            for (int bad : Bounds.outside(64)) {
                Due.due("2 bits " + bad, x.known(3, bad), Bounds.BAD);
            }
            Due.due("2 bits " + bits, x.known(3, bits), was);
            was = bits;
        }
        Due.due("2 the last", x.known(3, 0), 63);
    }

    /** Bits 0 to 5 can be known, so that c=6 to c=9 never hold. */
    private static void bitsThatAreKnown() {
        for (int bit = 0; bit < 10; bit++) {
            HeardWords x = Bounds.words(0, 2);
            Bounds.rule(x, 0, "in c=" + bit);
            Due.due("2 nothing at first " + bit, x.meets(0, 1, 0, 0), 0);
            x.known(1, 63);
            Due.due("2 all " + bit, x.meets(0, 1, 0, 0), bit < 6 ? 1 : 0);
            Due.due("2 of another person " + bit, x.meets(0, 0, 0, 0), 0);
            if (bit < 6) {
                x.known(1, 1 << bit);
                Due.due("2 this one " + bit, x.meets(0, 1, 0, 0), 1);
                x.known(1, 63 - (1 << bit));
                Due.due("2 all but this one " + bit, x.meets(0, 1, 0, 0), 0);
            }
        }
    }

    // ---- 3: word

    private static void words() {
        for (int kind = 0; kind < 7; kind++) {
            for (int person = 0; person < 8; person++) {
                HeardWords x = new HeardWords();
                int facts = kind == 0 ? 0 : kind == 6 ? 1023 : 1 << kind + 3;
                Due.due("3 kind " + kind + " by " + person, x.word(kind, person, facts), 0);
                Due.due("3 kind " + kind, x.of(0, 0), kind);
                Due.due("3 by " + person, x.of(0, 1), person);
                Due.due("3 facts " + facts, x.of(0, 2), facts);
                Due.due("3 holds none", x.of(0, 3), 0);
            }
        }
    }

    private static void wordsAreFull() {
        HeardWords x = new HeardWords();
        for (int i = 0; i < 14; i++) {
            Due.due("3 word " + i, x.word(6 - i % 7, i % 8, 1023 - i), i);
            Due.due("3 words " + i, x.count(0), i + 1);
            Due.due("3 the next isn't there " + i, x.of(i + 1, 0), Bounds.NONE);
        }
        for (int more = 0; more < 3; more++) {
            Due.due("3 a fifteenth", x.word(0, 0, 0), Bounds.FULL);
            Due.due("3 fourteen", x.count(0), 14);
            Due.due("3 none under 14", x.of(14, 0), Bounds.NONE);
        }
        Due.due("3 the last one stands", x.of(13, 0), 0);
        Due.due("3 by", x.of(13, 1), 5);
        Due.due("3 with its facts", x.of(13, 2), 1010);
        Due.due("3 the first one stands", x.of(0, 0), 6);
        Due.due("3 with its facts", x.of(0, 2), 1023);
    }

    private static void refusalsOfWordInTheirOrder() {
        for (int words = 0; words <= 14; words += 14) {
            HeardWords x = Bounds.words(0, words);
            for (int none : Bounds.outside(7)) {
                Due.due("3 no kind " + none, x.word(none, 0, 0), Bounds.NONE);
                Due.due("3 no kind " + none + " ahead of BAD", x.word(none, 0, 1024), Bounds.NONE);
            }
            for (int none : Bounds.outside(8)) {
                Due.due("3 no person " + none, x.word(0, none, 0), Bounds.NONE);
                Due.due("3 no person " + none + " ahead of BAD", x.word(0, none, -1), Bounds.NONE);
            }
            for (int bad : Bounds.outside(1024)) {
                Due.due("3 facts " + bad, x.word(6, 7, bad), Bounds.BAD);
            }
            Due.due("3 none has come", x.count(0), words);
        }
    }

    // ---- 4: hold

    private static void partsAreLesser() {
        for (int word = 0; word < 5; word++) {
            for (int part = 0; part < 5; part++) {
                HeardWords x = Bounds.words(2, 5);
                Due.due("4 " + word + " holds " + part, x.hold(word, part), part < word ? 1 : Bounds.BAD);
                Due.due("4 so many has " + word, x.of(word, 3), part < word ? 1 : 0);
                Due.due("4 its part " + part, x.of(word, 4), part < word ? part : Bounds.MISSING);
                if (part != word) {
                    Due.due("4 the part has none", x.of(part, 3), 0);
                }
            }
        }
    }

    private static void partsByKind() {
        int[] most = {0, 0, 4, 0, 0, 4, 1};
        for (int kind = 0; kind < 7; kind++) {
            HeardWords x = Bounds.words(3, 6);
            x.word(kind, 0, 0);
            for (int part = 5; part >= 0; part--) {
                int has = 5 - part;
                int due = has < most[kind] ? has + 1 : most[kind] == 0 ? Bounds.CAST : Bounds.FULL;
                Due.due("4 kind " + kind + " holds part " + has, x.hold(6, part), due);
                Due.due("4 kind " + kind + " has", x.of(6, 3), Math.min(has + 1, most[kind]));
            }
            for (int k = 0; k < 4; k++) {
                Due.due("4 kind " + kind + " part " + k, x.of(6, 4 + k), k < most[kind] ? 5 - k : Bounds.MISSING);
            }
        }
    }

    private static void noPartTwice() {
        HeardWords x = Bounds.words(5, 6);
        for (int part = 0; part < 4; part++) {
            Due.due("4 one more", x.hold(5, part), part + 1);
            for (int has = 0; has <= part; has++) {
                Due.due("4 it has " + has + " of " + part, x.hold(5, has), Bounds.STATE);
            }
            Due.due("4 no more for that", x.of(5, 3), part + 1);
        }
        Due.due("4 another word may hold the same", x.hold(4, 3), 1);
        Due.due("4 and one of its parts may", x.hold(3, 2), 1);
        Due.due("4 a part of a part is none of its own", x.hold(2, 1), 1);
        HeardWords y = Bounds.words(6, 3);
        Due.due("4 a first", y.hold(1, 0), 1);
        Due.due("4 a second", y.hold(2, 1), 1);
        Due.due("4 word 0 is no part of word 2 itself, which is full", y.hold(2, 0), Bounds.FULL);
    }

    private static void refusalsOfHoldInTheirOrder() {
        for (int none : Bounds.outside(3)) {
            HeardWords x = Bounds.words(0, 3);
            Due.due("4 no word " + none, x.hold(none, 0), Bounds.NONE);
            Due.due("4 no part " + none, x.hold(2, none), Bounds.NONE);
            Due.due("4 neither " + none, x.hold(none, none), Bounds.NONE);
        }
        HeardWords x = Bounds.words(4, 3);
        Due.due("4 BAD ahead of CAST, itself", x.hold(1, 1), Bounds.BAD);
        Due.due("4 BAD ahead of CAST, a greater one", x.hold(1, 2), Bounds.BAD);
        Due.due("4 CAST", x.hold(1, 0), Bounds.CAST);
        HeardWords y = Bounds.words(6, 3);
        y.hold(1, 0);
        Due.due("4 BAD ahead of FULL, itself", y.hold(1, 1), Bounds.BAD);
        Due.due("4 BAD ahead of FULL, a greater one", y.hold(1, 2), Bounds.BAD);
        Due.due("4 STATE ahead of FULL", y.hold(1, 0), Bounds.STATE);
        Due.due("4 one still", y.of(1, 3), 1);
    }

    private static void partsOfPartsToTheFourteenth() {
        HeardWords x = Bounds.chain();
        Due.due("4 the last part", x.of(13, 4), 12);
        Bounds.rule(x, 0, "out k=6&b=0&s=9");
        Due.due("4 heard", x.heard(13, 0, 0), 1);
        x.show(512);
        Due.due("4 down to word 8 and word 0", x.why(13, 0, 0), 800);
        Due.due("4 down to word 0", x.why(7, 0, 0), 0);
        Due.due("4 not heard", x.heard(7, 0, 0), 0);
    }

    // ---- 5: of

    private static void ofNumbers() {
        HeardWords x = Bounds.words(2, 14);
        for (int none : Bounds.outside(14)) {
            Due.due("5 no word " + none, x.of(none, 0), Bounds.NONE);
            Due.due("5 no word " + none + ", no part", x.of(none, 7), Bounds.NONE);
        }
        for (int none : Bounds.outside(8)) {
            Due.due("5 no what " + none, x.of(0, none), Bounds.NONE);
            Due.due("5 no what " + none, x.of(13, none), Bounds.NONE);
        }
        Due.due("5 the first word", x.of(0, 1), 0);
        Due.due("5 the last word", x.of(13, 1), 5);
    }

    private static void ofParts() {
        for (int parts = 0; parts <= 4; parts++) {
            HeardWords x = Bounds.words(5, 6);
            for (int k = 0; k < parts; k++) {
                x.hold(5, 4 - k);
            }
            Due.due("5 how many of " + parts, x.of(5, 3), parts);
            for (int k = 0; k < 4; k++) {
                Due.due("5 part " + k + " of " + parts, x.of(5, 4 + k), k < parts ? 4 - k : Bounds.MISSING);
            }
        }
    }

    // ---- 6: show

    private static void shown() {
        HeardWords x = Bounds.words(0, 1);
        for (int bit = 0; bit < 10; bit++) {
            Bounds.rule(x, 0, "in s=" + bit);
        }
        int was = 0;
        for (int facts : new int[] {0, 1, 2, 4, 8, 16, 32, 64, 128, 256, 512, 1022, 511, 1023}) {
            Due.due("6 show " + facts, x.show(facts), was);
            was = facts;
            for (int bit = 0; bit < 10; bit++) {
                Due.due("6 is shown of " + facts + ": " + bit, x.meets(bit, 0, 0, 0), facts >> bit & 1);
            }
        }
        for (int bad : Bounds.outside(1024)) {
            Due.due("6 no facts " + bad, x.show(bad), Bounds.BAD);
        }
        Due.due("6 all are shown still", x.show(0), 1023);
    }
}

import java.util.ArrayList;
import java.util.List;

/**
 * "What is answered so changes nothing; what is asked changes nothing": of two objects with the same past one
 * gets a call more that is refused, or that asks; all that can be seen must be the same of both. And the calls
 * up to an object's 512th are answered alike.
 */
public final class NothingChangesTest {
    /** A call on an object. */
    private interface Call {
        long on(HeardWords x);
    }

    private static final int WORDS = 7, RULES = 4;

    private NothingChangesTest() {
    }

    public static void main(String[] args) {
        whatIsSeenTellsAnyChange();
        refusedPersonsAndWords();
        refusedRules();
        refusedWhenFull();
        refusedQuestions();
        refusedTapes();
        askedOfWords();
        askedOfProofAndJudge();
        askedOfTapesAndActs();
        askedTwice();
        askedBehindEachOther();
        theLastCall();
        objectsShareNothing();
        Due.finish();
    }

    /** Words of many kinds with parts, rules of both lands, something shown, let in, known, on tapes, fed, and done. */
    private static HeardWords some() {
        HeardWords x = new HeardWords();
        int[] kinds = {1, 3, 2, 6, 5, 4, 2};
        for (int i = 0; i < WORDS; i++) {
            x.word(kinds[i], i % 4, 1 << i);
        }
        int[][] held = {{2, 0}, {2, 1}, {3, 2}, {4, 3}, {4, 0}, {6, 5}};
        for (int[] h : held) {
            x.hold(h[0], h[1]);
        }
        x.known(1, 5);
        x.known(3, 33);
        x.show(9);
        Bounds.rule(x, 0, "out u=1&!c=2;in s=3&h<2;need 6 b=2");
        Bounds.rule(x, 1, "may k>3;out b=3&e=2;in c=5");
        Bounds.rule(x, 0, "may b=0&e=0;need 9 k=4;in k=3");
        Bounds.rule(x, 1, "out h=0&b=1&!s=4;need 2 k=6");
        x.judge(5);
        x.tape(0, 0, 4);
        x.item(0, 0, -1);
        x.item(0, 1, -1);
        x.item(0, 2, 1);
        x.tape(1, 0, 3);
        x.item(1, 2, 77);
        x.tape(2, 3, 2);
        x.item(2, 1, Long.MIN_VALUE + 1);
        x.tape(3, 4, 1);
        Bounds.feed(x, "in k=");
        x.act(4, 2, 11);
        return x;
    }

    /** All that can be seen: what a call sets is seen by what it was, at last. */
    private static List<Long> seen(HeardWords x, int words, int rules) {
        List<Long> row = new ArrayList<>();
        for (int i = 0; i < 5; i++) {
            row.add((long) x.count(i));
        }
        for (int i = 0; i < 17; i++) {
            row.add((long) x.trace(i));
        }
        for (int w = 0; w < words; w++) {
            for (int what = 0; what < 8; what++) {
                row.add((long) x.of(w, what));
            }
            row.add((long) x.ends(w, 0));
            row.add((long) x.ends(w, 1));
        }
        for (int tape = 0; tape < 6; tape++) {
            for (int i = 0; i < 4; i++) {
                row.add(x.read(tape, i));
            }
            row.add((long) x.shift(tape, 0, tape, 0, 0));
        }
        for (int r = 0; r < rules; r++) {
            for (int w = 0; w < words; w++) {
                row.add((long) x.meets(r, w, 0, 1));
            }
        }
        for (int land = 0; land < 2; land++) {
            row.add((long) x.proved(land));
            row.add((long) x.silent(0, land));
        }
        row.add((long) x.most());
        x.feed('0', 1);
        row.add((long) x.rule(1));
        row.add((long) x.count(1));
        row.add((long) x.silent(0, 1));
        for (int person = 0; person < 8; person++) {
            row.add((long) x.known(person, 0));
        }
        row.add((long) x.show(0));
        row.add((long) x.judge(0));
        row.add((long) x.word(0, 0, 0));
        return row;
    }

    private static void unchanged(String call, HeardWords x, HeardWords y, int words, int rules) {
        List<Long> a = seen(x, words, rules);
        List<Long> b = seen(y, words, rules);
        for (int i = 0; i < b.size(); i++) {
            Due.due(call + " leaves all as it was, at " + i, a.get(i), b.get(i));
        }
    }

    private static void refused(String name, long due, Call call) {
        HeardWords x = some();
        Due.due(name, call.on(x), due);
        unchanged(name, x, some(), WORDS, RULES);
    }

    private static void asked(String name, Call call) {
        HeardWords x = some();
        call.on(x);
        unchanged(name, x, some(), WORDS, RULES);
    }

    /** That the look at an object would tell if something had changed. */
    private static void whatIsSeenTellsAnyChange() {
        Call[] changes = {x -> x.known(2, 1), x -> x.known(3, 32), x -> x.word(0, 0, 0), x -> x.hold(6, 4), x -> x.show(8),
            x -> x.feed(0, 1), x -> x.feed('1' << 8 | '&', 2), x -> x.rule(0), x -> x.judge(4), x -> x.act(4, 1, 11),
            x -> x.act(9, 1, 11), x -> x.tape(0, 0, 4), x -> x.tape(5, 0, 0), x -> x.tape(0, -1, 0), x -> x.item(1, 0, 1),
            x -> x.shift(0, 0, 1, 0, 1)};
        for (int i = 0; i < changes.length; i++) {
            HeardWords x = some();
            changes[i].on(x);
            Due.due("change " + i + " is seen", seen(x, WORDS, RULES).equals(seen(some(), WORDS, RULES)) ? 1 : 0, 0);
        }
        Due.due("no change is seen", seen(some(), WORDS, RULES).equals(seen(some(), WORDS, RULES)) ? 1 : 0, 1);
    }

    private static void refusedPersonsAndWords() {
        refused("2 known NONE", -1, x -> x.known(8, 1));
        refused("2 known NONE", -1, x -> x.known(-1, 1));
        refused("2 known BAD", -2, x -> x.known(1, 64));
        refused("2 known BAD", -2, x -> x.known(1, -1));
        refused("3 word NONE", -1, x -> x.word(7, 0, 1));
        refused("3 word NONE", -1, x -> x.word(0, 8, 1));
        refused("3 word BAD", -2, x -> x.word(0, 0, 1024));
        refused("4 hold NONE", -1, x -> x.hold(7, 0));
        refused("4 hold NONE", -1, x -> x.hold(6, 7));
        refused("4 hold NONE", -1, x -> x.hold(6, -1));
        refused("4 hold BAD", -2, x -> x.hold(2, 3));
        refused("4 hold BAD", -2, x -> x.hold(4, 4));
        refused("4 hold CAST", -12, x -> x.hold(1, 0));
        refused("4 hold CAST", -12, x -> x.hold(5, 0));
        refused("4 hold STATE", -3, x -> x.hold(2, 1));
        refused("4 hold STATE", -3, x -> x.hold(3, 2));
        refused("4 hold FULL", -4, x -> x.hold(3, 1));
        refused("6 show BAD", -2, x -> x.show(1024));
        refused("6 show BAD", -2, x -> x.show(-1));
        refused("5 of NONE", -1, x -> x.of(7, 0));
        refused("5 of NONE", -1, x -> x.of(0, 8));
    }

    private static void refusedRules() {
        refused("7 feed BAD", -2, x -> x.feed('x', 5));
        refused("7 feed BAD", -2, x -> x.feed('x', -1));
        refused("8 rule NONE", -1, x -> x.rule(2));
        refused("8 rule NONE", -1, x -> x.rule(-1));
        refused("9 judge BAD", -2, x -> x.judge(16));
        refused("9 judge BAD", -2, x -> x.judge(17));
        refused("9 judge BAD", -2, x -> x.judge(-1));
        refused("10 meets NONE", -1, x -> x.meets(4, 0, 0, 0));
        refused("10 meets NONE", -1, x -> x.meets(0, 7, 0, 0));
        refused("10 meets NONE", -1, x -> x.meets(0, 0, 4, 0));
        refused("10 meets NONE", -1, x -> x.meets(0, 0, 0, 3));
    }

    private static HeardWords full() {
        HeardWords x = some();
        for (int i = WORDS; i < 14; i++) {
            x.word(2, i % 8, 1 << i % 10);
        }
        for (int part = 0; part < 4; part++) {
            x.hold(13, part);
        }
        for (int i = RULES; i < 10; i++) {
            x.rule(0);
            Bounds.feed(x, i % 2 == 0 ? "in k=3" : "may b=5");
            x.rule(0);
        }
        Bounds.feed(x, "out u=1".repeat(14));
        return x;
    }

    private static void refusedWhenFull() {
        Call[] calls = {x -> x.word(0, 0, 1), x -> x.hold(13, 5), x -> x.feed('x', 3), x -> x.feed(0, 4), x -> x.rule(0),
            x -> x.rule(1)};
        for (int i = 0; i < calls.length; i++) {
            HeardWords x = full();
            Due.due("FULL " + i, calls[i].on(x), Bounds.FULL);
            unchanged("FULL " + i, x, full(), 14, 10);
        }
        Due.due("10 rules", full().count(1), 10);
        Due.due("98 bytes", full().count(2), 98);
    }

    private static void refusedQuestions() {
        refused("11 heard NONE", -1, x -> x.heard(7, 0, 0));
        refused("12 why NONE", -1, x -> x.why(0, 4, 0));
        refused("13 least NONE", -1, x -> x.least(0, 0, 2, 0));
        refused("13 least NONE", -1, x -> x.least(0, 0, 0, 2));
        refused("14 ends NONE", -1, x -> x.ends(0, 2));
        refused("15 cut NONE", -1, x -> x.cut(0, 0, 0, 2));
        refused("16 opened NONE", -1, x -> x.opened(7, 0));
        refused("16 opened STATE", -3, x -> x.opened(5, 0));
        refused("16 opened STATE", -3, x -> x.opened(6, 0));
        refused("17 proved NONE", -1, x -> x.proved(2));
        refused("18 needed NONE", -1, x -> x.needed(1, 2));
        refused("18 needed BAD", -2, x -> x.needed(1024, 0));
        refused("18 needed for what isn't proved", -5, x -> x.needed(256, 0));
        refused("19 plan NONE", -1, x -> x.plan(1, 2, 0));
        refused("19 plan NONE", -1, x -> x.plan(1, 0, -2));
        refused("19 plan BAD", -2, x -> x.plan(128, 0, 0));
        refused("19 plan BAD", -2, x -> x.plan(63, 0, 0));
        refused("19 plan beyond", -1, x -> x.plan(2, 0, 1));
        refused("20 clash NONE", -1, x -> x.clash(7, 0, 0));
        refused("21 silent NONE", -1, x -> x.silent(4, 0));
        refused("22 hangs NONE", -1, x -> x.hangs(4));
        refused("24 beside NONE", -1, x -> x.beside(0, 3));
    }

    private static void refusedTapes() {
        refused("25 way NONE", -1, x -> x.way(6, 0, 0, 0, 0));
        refused("25 way CAST", -12, x -> x.way(2, 0, 0, 0, 0));
        refused("27 trace NONE", -1, x -> x.trace(20));
        refused("28 taken BAD", -2, x -> x.taken(0, 7));
        refused("28 taken NOTHING", -11, x -> x.taken(7, 0));
        refused("28 taken CAST", -12, x -> x.taken(0, 3));
        refused("29 count BAD", -2, x -> x.count(5));
        refused("30 tape NONE", -1, x -> x.tape(6, 0, 1));
        refused("30 tape BAD", -2, x -> x.tape(0, 5, 1));
        refused("30 tape BAD", -2, x -> x.tape(0, -2, 1));
        refused("30 tape BAD", -2, x -> x.tape(0, 0, 61));
        refused("30 tape SIZE", -14, x -> x.tape(0, 0, -1));
        refused("30 tape SIZE", -14, x -> x.tape(5, 0, -1));
        refused("31 item NONE", -1, x -> x.item(6, 0, 1));
        refused("31 item NOTHING", -11, x -> x.item(5, 0, 1));
        refused("31 item PLACE", -13, x -> x.item(0, 4, 1));
        refused("31 item PLACE", -13, x -> x.item(0, -1, 1));
        refused("32 read NO", HeardWords.NO, x -> x.read(0, 4));
        refused("33 shift NONE", -1, x -> x.shift(0, 0, 6, 0, 1));
        refused("33 shift NOTHING", -11, x -> x.shift(0, 0, 5, 0, 1));
        refused("33 shift NOTHING", -11, x -> x.shift(5, 0, 0, 0, 1));
        refused("33 shift CAST", -12, x -> x.shift(0, 0, 2, 0, 1));
        refused("33 shift PLACE", -13, x -> x.shift(0, 0, 1, 0, 4));
        refused("33 shift PLACE", -13, x -> x.shift(0, 2, 0, 0, 3));
        refused("33 shift PLACE", -13, x -> x.shift(0, 0, 0, 2, 3));
        refused("33 shift PLACE", -13, x -> x.shift(0, 0, 1, 0, -1));
    }

    private static void askedOfWords() {
        for (int land = 0; land < 2; land++) {
            int l = land;
            for (int word = 0; word < WORDS; word++) {
                int w = word;
                asked("5 of", x -> x.of(w, 3 + l));
                asked("10 meets", x -> x.meets(l, w, 0, l));
                asked("11 heard", x -> x.heard(w, 0, l));
                asked("12 why", x -> x.why(w, 2, l));
                asked("13 least", x -> x.least(w, 0, l, 0));
                asked("13 rivals", x -> x.least(w, 3, l, 1));
                asked("14 ends", x -> x.ends(w, l));
                asked("15 cut", x -> x.cut(w, 0, l, 0));
                asked("15 left", x -> x.cut(w, 0, l, 1));
                asked("16 opened", x -> x.opened(w, l));
                asked("20 clash", x -> x.clash(w, 0, l));
            }
        }
    }

    private static void askedOfProofAndJudge() {
        for (int land = 0; land < 2; land++) {
            int l = land;
            asked("17 proved", x -> x.proved(l));
            asked("18 needed", x -> x.needed(9, l));
            asked("19 plan", x -> x.plan(34, l, -1));
            asked("19 plan of five", x -> x.plan(31, l, 0));
            asked("21 silent", x -> x.silent(0, l));
            asked("24 beside", x -> x.beside(0, l));
        }
        for (int rule = 0; rule < RULES; rule++) {
            int r = rule;
            asked("22 hangs", x -> x.hangs(r));
        }
        asked("23 most", x -> x.most());
        asked("24 both", x -> x.beside(2, 2));
        asked("7 no bytes", x -> x.feed(-1, 0));
    }

    private static void askedOfTapesAndActs() {
        for (int place = -1; place < 5; place++) {
            int i = place;
            asked("25 way", x -> x.way(0, i, 4, 0, 0));
            asked("25 way of nothing", x -> x.way(5, i, 4, 0, 1));
            asked("27 trace", x -> x.trace(i));
            asked("29 count", x -> x.count(i));
            asked("32 read", x -> x.read(0, i));
        }
        asked("28 taken", x -> x.taken(4, 2));
        asked("33 none shifted", x -> x.shift(0, 1, 1, 1, 0));
        asked("33 shifted onto its place", x -> x.shift(1, 1, 1, 1, 2));
        asked("30 nothing, where nothing was", x -> x.tape(5, -1, 7));
        asked("31 as it was", x -> x.item(1, 2, 77));
        asked("6 as it was", x -> x.show(9));
        asked("9 as it was", x -> x.judge(5));
        asked("2 as it was", x -> x.known(1, 5));
        asked("26 the same once more", x -> x.act(4, 2, 11));
    }

    /** Each question behind each other one: its answer is that of an object that was asked nothing else. */
    private static void askedBehindEachOther() {
        List<Call> questions = questions();
        for (int shown : new int[] {9, 0, 585}) {
            for (int second = 0; second < questions.size(); second++) {
                long due = questions.get(second).on(someShowing(shown));
                for (int first = 0; first < questions.size(); first++) {
                    HeardWords x = someShowing(shown);
                    questions.get(first).on(x);
                    Due.due("question " + second + " behind " + first, questions.get(second).on(x), due);
                }
            }
        }
    }

    private static HeardWords someShowing(int facts) {
        HeardWords x = some();
        x.show(facts);
        x.judge(facts & 15);
        return x;
    }

    private static List<Call> questions() {
        List<Call> row = new ArrayList<>();
        for (int land = 0; land < 2; land++) {
            int l = land;
            for (int word = 0; word < WORDS; word += 2) {
                int w = word;
                row.add(x -> x.heard(w, 0, l));
                row.add(x -> x.why(w, 0, l));
                row.add(x -> x.least(w, 0, l, 0));
                row.add(x -> x.ends(w, l));
                row.add(x -> x.cut(w, 0, l, 0));
                row.add(x -> x.opened(w, l));
                row.add(x -> x.clash(w, 0, l));
                row.add(x -> x.meets(l + 2, w, 0, 1));
            }
            row.add(x -> x.proved(l));
            row.add(x -> x.needed(3, l));
            row.add(x -> x.plan(35, l, -1));
            row.add(x -> x.plan(35, l, 1));
            row.add(x -> x.silent(0, l));
            row.add(x -> x.beside(0, l));
            row.add(x -> x.beside(l, 2));
            row.add(x -> x.hangs(l + 1));
            row.add(x -> x.way(l, 0, 6, 0, 0));
        }
        row.add(x -> x.most());
        return row;
    }

    /** All questions one after the other, and all of them again. */
    private static void askedTwice() {
        HeardWords x = some();
        List<Call> questions = questions();
        List<Long> first = new ArrayList<>();
        for (Call question : questions) {
            first.add(question.on(x));
        }
        for (int i = 0; i < first.size(); i++) {
            Due.due("asked again " + i, questions.get(i).on(x), first.get(i));
        }
        unchanged("all questions", x, some(), WORDS, RULES);
    }

    /** The 512th call of an object is answered, whatever the 511 ahead of it were. */
    private static void theLastCall() {
        for (int kind = 0; kind < 6; kind++) {
            HeardWords x = new HeardWords();
            x.word(0, 0, 1);
            for (int calls = 2; calls < 512; calls++) {
                many(x, kind, calls);
            }
            Due.due("the 512th call after " + kind, x.word(1, 1, 1), 1);
        }
    }

    private static void many(HeardWords x, int kind, int calls) {
        switch (kind) {
            case 0:
                Due.due("so many calls", x.count(0), 1);
                break;
            case 1:
                Due.due("so many rules without text", x.rule(0), -10);
                break;
            case 2:
                Due.due("so many acts", x.act(0, 2, calls), 2 * calls);
                break;
            case 3:
                Due.due("so many tapes", x.tape(calls % 6, calls % 5, calls % 61), 1);
                break;
            case 4:
                Due.due("so many facts shown", x.show(calls), calls == 2 ? 0 : calls - 1);
                break;
            default:
                Due.due("so many plans", x.plan(1, 0, 0), 0);
                break;
        }
    }

    private static void objectsShareNothing() {
        HeardWords x = some();
        HeardWords y = full();
        y.tape(0, 3, 60);
        y.act(0, 0, 0);
        y.least(4, 0, 0, 0);
        unchanged("another object's calls", x, some(), WORDS, RULES);
    }
}

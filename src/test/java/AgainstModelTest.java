import java.util.List;
import java.util.Random;

/** Long runs of calls on the class and on the model side by side: each answer must be the same. */
public final class AgainstModelTest {
    private static final int RUNS = 1500;
    private static final int CALLS = 512;

    private final Random random;
    private final HeardWords x = new HeardWords();
    private final Model m = new Model();
    private int calls = 0;
    private int wordsMade = 0;
    private int rulesMade = 0;
    /** How many rules are made while building, and whether their conditions hold of few layers only. */
    private final int rulesWanted;
    private final boolean narrow;

    private AgainstModelTest(long seed) {
        random = new Random(seed);
        rulesWanted = 1 + below(below(2) == 0 ? 4 : 11);
        narrow = below(3) != 0;
    }

    public static void main(String[] args) {
        int runs = args.length > 0 ? Integer.parseInt(args[0]) : RUNS;
        long first = args.length > 1 ? Long.parseLong(args[1]) : 1;
        for (long seed = first; seed < first + runs; seed++) {
            new AgainstModelTest(seed).run("run " + seed);
        }
        Due.finish();
    }

    private void run(String name) {
        int building = 30 + random.nextInt(200);
        int style = random.nextInt(3);
        while (calls < CALLS) {
            if (calls < building) {
                build(name, style);
            } else if (random.nextInt(12) == 0) {
                change(name);
            } else {
                ask(name);
            }
        }
    }

    private int below(int n) {
        return random.nextInt(n);
    }

    /** A number below n, but now and then one that isn't. */
    private int number(int n) {
        int dice = below(60);
        if (dice == 0) return -1 - below(2);
        if (dice == 1) return n + below(2);
        if (dice == 2) return below(2) == 0 ? Integer.MAX_VALUE : Integer.MIN_VALUE;
        return n == 0 ? 0 : below(n);
    }

    private void same(String call, long got, long want) {
        calls++;
        Due.due(call, got, want);
        if (got != want) {
            System.out.println(m);
        }
    }

    private void build(String run, int style) {
        int dice = below(20);
        if (dice < 6) {
            word(run);
        } else if (dice < 12) {
            hold(run);
        } else if (dice < 18) {
            if (rulesMade < rulesWanted) {
                rule(run, style);
            } else {
                change(run);
            }
        } else {
            change(run);
        }
    }

    private void word(String run) {
        int kind = below(3) == 0 ? number(7) : new int[] {2, 5, 6}[below(3)];
        int person = number(below(2) == 0 ? 2 : 8);
        int facts = below(3) == 0 ? number(1024) : 1 << below(10);
        same(run + " word " + kind + " " + person + " " + facts, x.word(kind, person, facts), m.word(kind, person, facts));
        wordsMade = m.count(0);
    }

    private void hold(String run) {
        int word = number(wordsMade);
        int part = below(10) == 0 ? number(wordsMade) : word > 0 && word < 20 ? below(word) : 0;
        same(run + " hold " + word + " " + part, x.hold(word, part), m.hold(word, part));
    }

    private void rule(String run, int style) {
        String text = clauses(style);
        if (below(8) == 0) {
            text = spoiled(text);
        }
        int from = 0;
        while (from < text.length()) {
            int n = Math.min(text.length() - from, 1 + below(4));
            int bytes = below(2) == 0 ? 0 : random.nextInt();
            for (int i = 0; i < n; i++) {
                bytes = bytes << 8 | text.charAt(from + i) & 255;
            }
            same(run + " feed " + bytes + " " + n, x.feed(bytes, n), m.feed(bytes, n));
            from += n;
        }
        int land = below(3) == 0 ? number(2) : below(2);
        same(run + " rule " + land + " of " + text, x.rule(land), m.rule(land));
        rulesMade = m.count(1);
    }

    private String clauses(int style) {
        StringBuilder s = new StringBuilder();
        int n = below(20) == 0 ? 7 : 1 + below(5);
        for (int i = 0; i < n; i++) {
            s.append(i == 0 ? "" : ";");
            int dice = below(style == 0 ? 12 : 8);
            if (dice < 3) {
                s.append("out ");
            } else if (dice < 5) {
                s.append("in ");
            } else if (dice < 7) {
                s.append("need ").append(below(10)).append(' ');
            } else {
                s.append("may ");
            }
            if (narrow) {
                s.append("bbkuh".charAt(below(5))).append('=').append(below(5)).append('&');
            }
            condition(s, below(12) == 0 ? 5 : below(3), style);
        }
        return s.toString();
    }

    private void condition(StringBuilder s, int depth, int style) {
        int terms = 1 + below(narrow ? 2 : 3);
        for (int i = 0; i < terms; i++) {
            s.append(i == 0 ? "" : below(narrow ? 8 : 3) == 0 ? "|" : "&");
            factor(s, depth, style);
        }
    }

    private void factor(StringBuilder s, int depth, int style) {
        int dice = below(6);
        if (depth > 0 && dice == 0) {
            s.append('(');
            condition(s, depth - 1, style);
            s.append(')');
        } else if (depth > 0 && dice < 3) {
            s.append('!');
            factor(s, depth - 1, style);
        } else {
            test(s, style);
        }
    }

    private void test(StringBuilder s, int style) {
        String letters = style == 1 ? "sshhkcu" : "kubcesh";
        char letter = letters.charAt(below(letters.length()));
        s.append(letter);
        s.append(letter == 'k' || letter == 'h' ? "<=>".charAt(below(3)) : '=');
        int most = letter == 'e' ? 4 : letter == 'k' || letter == 'u' ? 7 : letter == 'h' ? 3 : letter == 'b' ? 4 : 10;
        s.append(below(10) == 0 ? below(10) : below(most));
    }

    private String spoiled(String text) {
        StringBuilder s = new StringBuilder(text);
        int times = 1 + below(2);
        for (int i = 0; i < times; i++) {
            int at = below(s.length() + 1);
            char sign = below(6) == 0 ? (char) below(256) : "outinedmay ;|&!()<=>kubcesh0123456789".charAt(below(37));
            int dice = below(4);
            if (dice == 0) {
                s.insert(at, sign);
            } else if (dice == 1 && at < s.length()) {
                s.deleteCharAt(at);
            } else if (dice == 2 && at < s.length()) {
                s.setCharAt(at, sign);
            } else {
                s.setLength(at);
            }
        }
        return s.toString();
    }

    private void change(String run) {
        int a = number(8);
        int b = below(20) == 0 ? number(64) : below(64);
        int facts = below(3) == 0 ? number(1024) : 1 << below(10) | 1 << below(10);
        int rules = below(2) == 0 ? (1 << rulesMade) - 1 : number(1 << rulesMade);
        switch (below(6)) {
            case 0:
                same(run + " known " + a + " " + b, x.known(a, b), m.known(a, b));
                break;
            case 1:
                same(run + " show " + facts, x.show(facts), m.show(facts));
                break;
            case 2:
                same(run + " judge " + rules, x.judge(rules), m.judge(rules));
                break;
            case 3:
                hold(run);
                break;
            case 4:
                int bytes = random.nextInt();
                int n = below(4) == 0 ? number(5) : 0;
                same(run + " feed " + bytes + " " + n, x.feed(bytes, n), m.feed(bytes, n));
                break;
            default:
                int land = number(2);
                same(run + " rule " + land, x.rule(land), m.rule(land));
                break;
        }
    }

    private void ask(String run) {
        int w = number(wordsMade);
        int e = below(3) == 0 ? number(4) : 0;
        int l = number(2);
        int r = number(rulesMade);
        String wel = " " + w + " " + e + " " + l;
        switch (below(20)) {
            case 0:
                int of = number(8);
                same(run + " of " + w + " " + of, x.of(w, of), m.of(w, of));
                break;
            case 1:
                int met = number(3);
                same(run + " meets " + r + " " + w + " " + e + " " + met, x.meets(r, w, e, met), m.meets(r, w, e, met));
                break;
            case 2:
                same(run + " heard" + wel, x.heard(w, e, l), m.heard(w, e, l));
                break;
            case 3:
                same(run + " why" + wel, x.why(w, e, l), m.why(w, e, l));
                break;
            case 4:
                int least = number(2);
                same(run + " least" + wel + " " + least, x.least(w, e, l, least), m.least(w, e, l, least));
                break;
            case 5:
                same(run + " ends " + w + " " + l, x.ends(w, l), m.ends(w, l));
                break;
            case 6:
                int cut = number(2);
                same(run + " cut" + wel + " " + cut, x.cut(w, e, l, cut), m.cut(w, e, l, cut));
                break;
            case 7:
                same(run + " opened " + w + " " + l, x.opened(w, l), m.opened(w, l));
                break;
            case 8:
                same(run + " proved " + l, x.proved(l), m.proved(l));
                break;
            case 9:
                int facts = below(3) == 0 ? number(1024) : below(2) == 0 ? 1 << below(10) : m.proved(0) & random.nextInt();
                same(run + " needed " + facts + " " + l, x.needed(facts, l), m.needed(facts, l));
                break;
            case 10:
                plan(run, l);
                break;
            case 11:
                same(run + " clash" + wel, x.clash(w, e, l), m.clash(w, e, l));
                break;
            case 12:
                same(run + " silent " + e + " " + l, x.silent(e, l), m.silent(e, l));
                break;
            case 13:
                same(run + " hangs " + r, x.hangs(r), m.hangs(r));
                break;
            case 14:
                same(run + " most", x.most(), m.most());
                break;
            case 15:
                int beside = number(3);
                same(run + " beside " + e + " " + beside, x.beside(e, beside), m.beside(e, beside));
                break;
            case 16:
                way(run, w, e, l);
                break;
            case 17:
                act(run, w);
                break;
            default:
                tapes(run);
                break;
        }
    }

    private void plan(String run, int land) {
        int words = below(10) == 0 ? number(1 << wordsMade) : 0;
        for (int i = below(5); i >= 0 && words >= 0; i--) {
            words |= 1 << below(Math.max(1, wordsMade));
        }
        for (int i = -1; i < 5; i++) {
            int place = below(20) == 0 ? number(7) : i;
            same(run + " plan " + words + " " + land + " " + place, x.plan(words, land, place), m.plan(words, land, place));
        }
    }

    private void way(String run, int w, int e, int l) {
        int tape = number(6);
        List<Integer> right = m.rightWay(w, e, l);
        int from = below(8) == 0 ? number(60) : below(3);
        int size = Math.min(60, below(2) == 0 ? right.size() + from : below(61));
        if (below(6) != 0) {
            same(run + " tape " + tape + " 0 " + size, x.tape(tape, 0, size), m.tape(tape, 0, size));
        }
        for (int i = 0; i < right.size() && i < size; i++) {
            int number = below(40) == 0 ? below(6) - 1 : right.get(i);
            same(run + " item", x.item(tape, from + i, number), m.item(tape, from + i, number));
        }
        same(run + " way " + tape + " " + from + " " + w + " " + e + " " + l, x.way(tape, from, w, e, l), m.way(tape, from, w, e, l));
    }

    private void act(String run, int w) {
        int act = number(3);
        int v = below(2) == 0 ? random.nextInt() : below(10);
        same(run + " act " + w + " " + act + " " + v, x.act(w, act, v), m.act(w, act, v));
        for (int i = -1; i < 21; i += 1 + below(4)) {
            same(run + " trace " + i, x.trace(i), m.trace(i));
        }
        int k = number(7);
        same(run + " taken " + w + " " + k, x.taken(w, k), m.taken(w, k));
        int what = number(5);
        same(run + " count " + what, x.count(what), m.count(what));
    }

    private void tapes(String run) {
        int t = number(below(2) == 0 ? 2 : 6);
        int other = number(below(2) == 0 ? 2 : 6);
        int i = number(12);
        int j = number(12);
        int n = number(10);
        long v = below(2) == 0 ? random.nextLong() : below(300) - 150;
        int dice = below(12);
        if (dice < 2) {
            int sort = below(4) == 0 ? number(6) - 1 : below(5);
            int size = below(4) == 0 ? number(61) : below(15);
            same(run + " tape " + t + " " + sort + " " + size, x.tape(t, sort, size), m.tape(t, sort, size));
        } else if (dice < 6) {
            same(run + " item " + t + " " + i + " " + v, x.item(t, i, v), m.item(t, i, v));
        } else if (dice < 9) {
            same(run + " read " + t + " " + i, x.read(t, i), m.read(t, i));
        } else {
            same(run + " shift " + t + " " + i + " " + other + " " + j + " " + n, x.shift(t, i, other, j, n), m.shift(t, i, other, j, n));
        }
    }
}

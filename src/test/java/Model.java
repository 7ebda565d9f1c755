import java.util.ArrayList;
import java.util.Arrays;
import java.util.Comparator;
import java.util.HashSet;
import java.util.LinkedHashSet;
import java.util.List;
import java.util.Set;
import java.util.TreeSet;

/**
 * The document once more, written as slowly and plainly as can be, to hold the class against:
 * every set is tried, every order gone through, every layer laid out, every rule read anew from its text.
 */
final class Model {
    private static final int NONE = -1, BAD = -2, STATE = -3, FULL = -4;
    private static final int NOTHING = -11, CAST = -12, PLACE = -13, SIZE = -14;

    /** A word, its acts with their bodies as classes of Java's own. */
    private static class Word {
        int i;
        int kind;
        int b;
        int facts;
        List<Integer> parts = new ArrayList<>();
        List<Integer> ran;

        void ran(int body) {
            ran.add(body);
        }

        int hears(int x) {
            ran(10);
            return x + i;
        }

        int keeps(int x) {
            ran(11);
            return hears(x) - b;
        }

        int tells(int x) {
            ran(12);
            return keeps(x) * 2;
        }
    }

    private static class Said extends Word {
        @Override
        int keeps(int x) {
            ran(20);
            return super.keeps(x) ^ 5;
        }
    }

    private static class Written extends Said {
        @Override
        int hears(int x) {
            ran(30);
            return super.hears(x * 3);
        }

        @Override
        int tells(int x) {
            ran(31);
            return super.tells(x) + keeps(1);
        }
    }

    private static class Found extends Word {
        @Override
        int hears(int x) {
            ran(40);
            return -super.hears(x);
        }
    }

    private static class Act extends Word {
        @Override
        int tells(int x) {
            ran(50);
            return super.tells(x - i);
        }
    }

    private static class Copy extends Written {
        @Override
        int keeps(int x) {
            ran(60);
            return super.keeps(x) + super.hears(2);
        }
    }

    private static class Told extends Said {
        @Override
        int tells(int x) {
            ran(70);
            return keeps(x) - super.tells(x);
        }

        @Override
        int hears(int x) {
            ran(71);
            return super.hears(x) ^ b;
        }
    }

    private static final Class<?>[] CLASSES =
        {Word.class, Said.class, Written.class, Found.class, Act.class, Copy.class, Told.class};

    private static Word ofKind(int kind) {
        switch (kind) {
            case 0: return new Word();
            case 1: return new Said();
            case 2: return new Written();
            case 3: return new Found();
            case 4: return new Act();
            case 5: return new Copy();
            default: return new Told();
        }
    }

    private record Layer(int word, int end) {
    }

    private record World(Set<Integer> shown, int judge, Set<Integer> before) {
    }

    private record Rule(int land, String[] clauses) {
    }

    private final int[] known = new int[8];
    private final List<Word> words = new ArrayList<>();
    private final List<Rule> rules = new ArrayList<>();
    private String text = "";
    private int shown = 0;
    private int judge = 0;
    private List<Integer> trace = new ArrayList<>();
    private final Object[] tapes = new Object[6];

    // ---- small things

    private static Set<Integer> set(int bits) {
        Set<Integer> set = new TreeSet<>();
        for (int i = 0; i < 31; i++) {
            if ((bits >> i & 1) == 1) {
                set.add(i);
            }
        }
        return set;
    }

    private static int bits(Set<Integer> set) {
        int bits = 0;
        for (int i : set) {
            bits |= 1 << i;
        }
        return bits;
    }

    private static <T> Set<T> with(Set<T> a, Set<T> b) {
        Set<T> both = new TreeSet<>(a);
        both.addAll(b);
        return both;
    }

    private boolean noWord(int w) {
        return w < 0 || w >= words.size();
    }

    private static boolean noEnd(int e) {
        return e < 0 || e > 3;
    }

    private static boolean noLand(int l) {
        return l != 0 && l != 1;
    }

    private World now() {
        return new World(set(shown), judge, new TreeSet<>());
    }

    // ---- persons, words

    int known(int person, int bits) {
        if (person < 0 || person > 7) return NONE;
        if (bits < 0 || bits > 63) return BAD;
        int was = known[person];
        known[person] = bits;
        return was;
    }

    int word(int kind, int person, int facts) {
        if (kind < 0 || kind > 6 || person < 0 || person > 7) return NONE;
        if (facts < 0 || facts > 1023) return BAD;
        if (words.size() == 14) return FULL;
        Word w = ofKind(kind);
        w.i = words.size();
        w.kind = kind;
        w.b = person;
        w.facts = facts;
        words.add(w);
        return w.i;
    }

    int hold(int word, int part) {
        if (noWord(word) || noWord(part)) return NONE;
        if (part >= word) return BAD;
        Word w = words.get(word);
        int most = w instanceof Told ? 1 : w instanceof Written ? 4 : 0;
        if (most == 0) return CAST;
        if (w.parts.contains(part)) return STATE;
        if (w.parts.size() == most) return FULL;
        w.parts.add(part);
        return w.parts.size();
    }

    int of(int word, int what) {
        if (noWord(word) || what < 0 || what > 7) return NONE;
        Word w = words.get(word);
        List<Integer> row = new ArrayList<>(List.of(w.kind, w.b, w.facts, w.parts.size()));
        row.addAll(w.parts);
        return what < row.size() ? row.get(what) : -5;
    }

    int show(int facts) {
        if (facts < 0 || facts > 1023) return BAD;
        int was = shown;
        shown = facts;
        return was;
    }

    // ---- rules

    int feed(int bytes, int n) {
        if (n < 0 || n > 4) return BAD;
        if (text.length() + n > 100) return FULL;
        String come = "";
        for (int i = 0; i < n; i++) {
            come = (char) (bytes & 255) + come;
            bytes >>>= 8;
        }
        text += come;
        return text.length();
    }

    int rule(int land) {
        if (noLand(land)) return NONE;
        if (rules.size() == 10) return FULL;
        String was = text;
        Recognizer r = new Recognizer(was);
        boolean whole = r.rule();
        text = "";
        if (!whole) return -10 - r.furthest;
        rules.add(new Rule(land, was.split(";")));
        return rules.size() - 1;
    }

    /**
     * Goes all ways at once: each function answers every place where what it names may end, and the
     * furthest place that any way came to is kept. As each way can be gone on with, that is the fault.
     */
    private static final class Recognizer {
        final String text;
        int furthest = 0;

        Recognizer(String text) {
            this.text = text;
        }

        Set<Integer> sign(Set<Integer> from, String any) {
            Set<Integer> ends = new HashSet<>();
            for (int p : from) {
                if (p < text.length() && any.indexOf(text.charAt(p)) >= 0) {
                    ends.add(p + 1);
                    furthest = Math.max(furthest, p + 1);
                }
            }
            return ends;
        }

        Set<Integer> all(Set<Integer> from, String signs) {
            Set<Integer> at = from;
            for (char c : signs.toCharArray()) {
                at = sign(at, "" + c);
            }
            return at;
        }

        Set<Integer> test(Set<Integer> from) {
            Set<Integer> a = sign(sign(from, "kh"), "<=>");
            Set<Integer> b = sign(sign(from, "ubces"), "=");
            Set<Integer> both = new HashSet<>(a);
            both.addAll(b);
            return sign(both, "0123456789");
        }

        Set<Integer> f(Set<Integer> from, int within) {
            Set<Integer> ends = new HashSet<>();
            if (from.isEmpty()) {
                return ends;
            }
            ends.addAll(test(from));
            if (within < 4) {
                ends.addAll(f(sign(from, "!"), within + 1));
                Set<Integer> open = sign(from, "(");
                if (!open.isEmpty()) {
                    ends.addAll(sign(e(open, within + 1), ")"));
                }
            }
            return ends;
        }

        Set<Integer> t(Set<Integer> from, int within) {
            Set<Integer> ends = new HashSet<>(f(from, within));
            Set<Integer> more = sign(ends, "&");
            if (!more.isEmpty()) {
                ends.addAll(t(more, within));
            }
            return ends;
        }

        Set<Integer> e(Set<Integer> from, int within) {
            Set<Integer> ends = new HashSet<>(t(from, within));
            Set<Integer> more = sign(ends, "|");
            if (!more.isEmpty()) {
                ends.addAll(e(more, within));
            }
            return ends;
        }

        Set<Integer> clause(Set<Integer> from) {
            Set<Integer> ready = new HashSet<>();
            ready.addAll(all(from, "out "));
            ready.addAll(all(from, "in "));
            ready.addAll(all(from, "may "));
            ready.addAll(all(sign(all(from, "need "), "0123456789"), " "));
            return e(ready, 0);
        }

        boolean rule() {
            Set<Integer> ends = clause(Set.of(0));
            boolean whole = ends.contains(text.length());
            for (int n = 2; n <= 6; n++) {
                ends = clause(sign(ends, ";"));
                whole |= ends.contains(text.length());
            }
            return whole;
        }
    }

    int judge(int bits) {
        if (bits < 0 || bits >= 1 << rules.size()) return BAD;
        int was = judge;
        judge = bits;
        return was;
    }

    /** The pieces of a condition between signs that stand in no brackets. */
    private static List<String> pieces(String e, char sign) {
        List<String> pieces = new ArrayList<>();
        int depth = 0;
        StringBuilder piece = new StringBuilder();
        for (char c : e.toCharArray()) {
            depth += c == '(' ? 1 : c == ')' ? -1 : 0;
            if (c == sign && depth == 0) {
                pieces.add(piece.toString());
                piece.setLength(0);
            } else {
                piece.append(c);
            }
        }
        pieces.add(piece.toString());
        return pieces;
    }

    private boolean holds(String e, Layer layer, World world) {
        List<String> either = pieces(e, '|');
        if (either.size() > 1) {
            return either.stream().anyMatch(p -> holds(p, layer, world));
        }
        List<String> all = pieces(e, '&');
        if (all.size() > 1) {
            return all.stream().allMatch(p -> holds(p, layer, world));
        }
        if (e.charAt(0) == '!') {
            return !holds(e.substring(1), layer, world);
        }
        if (e.charAt(0) == '(') {
            return holds(e.substring(1, e.length() - 1), layer, world);
        }
        return passes(e.charAt(0), e.charAt(1), e.charAt(2) - '0', layer, world);
    }

    private boolean passes(char letter, char sign, int n, Layer layer, World world) {
        Word w = words.get(layer.word);
        switch (letter) {
            case 'k':
                return compare(w.kind, sign, n);
            case 'h':
                int heard = 0;
                for (int before : world.before) {
                    heard += words.get(before).b == w.b ? 1 : 0;
                }
                return compare(heard, sign, n);
            case 'u':
                return n < 7 && CLASSES[n].isInstance(w);
            case 'b':
                return w.b == n;
            case 'c':
                return set(known[w.b]).contains(n);
            case 'e':
                return layer.end == n;
            default:
                return world.shown.contains(n);
        }
    }

    private static boolean compare(int a, char sign, int b) {
        return sign == '<' ? a < b : sign == '=' ? a == b : a > b;
    }

    /** The condition of a clause: all behind its last blank. */
    private boolean clauseHolds(String clause, Layer layer, World world) {
        return holds(clause.substring(clause.lastIndexOf(' ') + 1), layer, world);
    }

    private boolean some(Rule r, String sort, Layer layer, World world) {
        for (String clause : r.clauses) {
            if (clause.startsWith(sort) && clauseHolds(clause, layer, world)) return true;
        }
        return false;
    }

    private boolean meetsIt(Rule r, Layer layer, World world) {
        return some(r, "", layer, world);
    }

    private boolean keepsOut(int rule, Layer layer, World world) {
        Rule r = rules.get(rule);
        if (some(r, "out", layer, world) && !some(r, "in", layer, world)) return true;
        for (String clause : r.clauses) {
            if (clause.startsWith("need") && clauseHolds(clause, layer, world)
                && !world.shown.contains(clause.charAt(5) - '0')) return true;
        }
        return some(r, "may", layer, world) && (world.judge >> rule & 1) == 0;
    }

    private int wayThrough(Rule r, Layer layer, World world) {
        if (!some(r, "out", layer, world)) return -1;
        for (int c = 0; c < r.clauses.length; c++) {
            if (r.clauses[c].startsWith("in") && clauseHolds(r.clauses[c], layer, world)) return c;
        }
        return -1;
    }

    int meets(int rule, int word, int end, int what) {
        if (rule < 0 || rule >= rules.size() || noWord(word) || noEnd(end) || what < 0 || what > 2) return NONE;
        Layer layer = new Layer(word, end);
        if (what == 0) return meetsIt(rules.get(rule), layer, now()) ? 1 : 0;
        if (what == 1) return keepsOut(rule, layer, now()) ? 1 : 0;
        int c = wayThrough(rules.get(rule), layer, now());
        return c < 0 ? -5 : c;
    }

    // ---- heard

    /** Layers of a word to an end, as far as a number of them, parts at some places left out. */
    private void layers(int word, int end, int leftOut, List<Layer> row, int most) {
        if (row.size() >= most) return;
        row.add(new Layer(word, end));
        if (end == 1) return;
        List<Integer> parts = words.get(word).parts;
        for (int k = 0; k < parts.size(); k++) {
            if ((leftOut >> k & 1) == 0) layers(parts.get(k), 0, 0, row, most);
        }
    }

    private Set<Layer> layerSet(int word, int end, int leftOut) {
        List<Layer> row = new ArrayList<>();
        layers(word, end, leftOut, row, Integer.MAX_VALUE);
        return new LinkedHashSet<>(row);
    }

    private int whyOf(Set<Layer> row, int land, World world) {
        for (Layer layer : row) {
            for (int r = 0; r < rules.size(); r++) {
                if (rules.get(r).land == land && keepsOut(r, layer, world)) return 100 * layer.word + r;
            }
        }
        return -5;
    }

    private boolean isHeard(int word, int end, int land, World world) {
        return whyOf(layerSet(word, end, 0), land, world) == -5;
    }

    private Set<Integer> heardWords(int end, int land, World world) {
        Set<Integer> heard = new TreeSet<>();
        for (int w = 0; w < words.size(); w++) {
            if (isHeard(w, end, land, world)) heard.add(w);
        }
        return heard;
    }

    int heard(int word, int end, int land) {
        if (noWord(word) || noEnd(end) || noLand(land)) return NONE;
        return isHeard(word, end, land, now()) ? 1 : 0;
    }

    int why(int word, int end, int land) {
        if (noWord(word) || noEnd(end) || noLand(land)) return NONE;
        return whyOf(layerSet(word, end, 0), land, now());
    }

    int least(int word, int end, int land, int what) {
        if (noWord(word) || noEnd(end) || noLand(land) || what < 0 || what > 1) return NONE;
        Set<Layer> row = layerSet(word, end, 0);
        int least = -5;
        int rivals = 0;
        for (int size = 0; size <= 10 && rivals == 0; size++) {
            for (int facts = 0; facts < 1024; facts++) {
                if (Integer.bitCount(facts) != size || (facts & shown) != 0) continue;
                if (whyOf(row, land, new World(set(shown | facts), judge, Set.of())) != -5) continue;
                if (rivals == 0) least = facts;
                rivals++;
            }
        }
        return what == 0 ? least : rivals;
    }

    int ends(int word, int land) {
        if (noWord(word) || noLand(land)) return NONE;
        int bits = 0;
        for (int end = 0; end < 4; end++) {
            bits += isHeard(word, end, land, now()) ? 1 << end : 0;
        }
        return bits;
    }

    int cut(int word, int end, int land, int what) {
        if (noWord(word) || noEnd(end) || noLand(land) || what < 0 || what > 1) return NONE;
        int best = -5;
        for (int cut = 0; cut < 1 << words.get(word).parts.size(); cut++) {
            boolean fewer = best == -5 || Integer.bitCount(cut) < Integer.bitCount(best);
            if (fewer && whyOf(layerSet(word, end, cut), land, now()) == -5) best = cut;
        }
        if (what == 0 || best == -5) return best;
        int left = words.get(word).facts;
        for (int k : set(best)) {
            left &= ~words.get(words.get(word).parts.get(k)).facts;
        }
        return left;
    }

    int opened(int word, int land) {
        if (noWord(word) || noLand(land)) return NONE;
        Set<Integer> heard = heardWords(0, land, now());
        if (!heard.contains(word)) return STATE;
        World then = new World(with(set(shown), set(words.get(word).facts)), judge, Set.of(word));
        Set<Integer> opened = heardWords(0, land, then);
        opened.removeAll(heard);
        opened.remove(word);
        return bits(opened);
    }

    // ---- proof, plans

    private boolean holdsDeep(int word, int part) {
        for (int p : words.get(word).parts) {
            if (p == part || holdsDeep(p, part)) return true;
        }
        return false;
    }

    private Set<Integer> provedWithout(int without, int land) {
        Set<Integer> proved = set(shown);
        while (true) {
            Set<Integer> next = new TreeSet<>(proved);
            for (int w : heardWords(0, land, new World(proved, judge, Set.of()))) {
                boolean gone = without >= 0 && (w == without || holdsDeep(w, without));
                if (!gone) next.addAll(set(words.get(w).facts));
            }
            if (next.equals(proved)) return proved;
            proved = next;
        }
    }

    int proved(int land) {
        return noLand(land) ? NONE : bits(provedWithout(-1, land));
    }

    int needed(int facts, int land) {
        if (noLand(land)) return NONE;
        if (facts < 0 || facts > 1023) return BAD;
        if (!provedWithout(-1, land).containsAll(set(facts))) return -5;
        Set<Integer> needed = new TreeSet<>();
        for (int w = 0; w < words.size(); w++) {
            if (!provedWithout(w, land).containsAll(set(facts))) needed.add(w);
        }
        return bits(needed);
    }

    private List<List<Integer>> orders(List<Integer> told) {
        if (told.isEmpty()) return List.of(List.of());
        List<List<Integer>> orders = new ArrayList<>();
        for (int first : told) {
            List<Integer> rest = new ArrayList<>(told);
            rest.remove((Integer) first);
            for (List<Integer> order : orders(rest)) {
                List<Integer> row = new ArrayList<>(List.of(first));
                row.addAll(order);
                orders.add(row);
            }
        }
        return orders;
    }

    private boolean goesWell(List<Integer> order, int land) {
        Set<Integer> facts = set(shown);
        Set<Integer> before = new TreeSet<>();
        for (int w : order) {
            if (!isHeard(w, 0, land, new World(facts, judge, before))) return false;
            facts = with(facts, set(words.get(w).facts));
            before.add(w);
        }
        return true;
    }

    int plan(int bits, int land, int i) {
        if (noLand(land) || i < -1) return NONE;
        if (bits <= 0 || bits >= 1 << words.size() || Integer.bitCount(bits) > 5) return BAD;
        List<List<Integer>> orders = orders(new ArrayList<>(set(bits)));
        orders.sort(Comparator.comparing(order -> order.stream().map(w -> (char) ('a' + w)).toList().toString()));
        for (List<Integer> order : orders) {
            if (goesWell(order, land)) return i == -1 ? 1 : i < order.size() ? order.get(i) : NONE;
        }
        return i == -1 ? 0 : NONE;
    }

    // ---- clashes, the judge, lands

    int clash(int word, int end, int land) {
        if (noWord(word) || noEnd(end) || noLand(land)) return NONE;
        Layer layer = new Layer(word, end);
        int pairs = 0;
        for (int a = 0; a < rules.size(); a++) {
            for (int b = 0; b < rules.size(); b++) {
                boolean ofLand = rules.get(a).land == land && rules.get(b).land == land;
                if (ofLand && keepsOut(a, layer, now()) && !keepsOut(b, layer, now())
                    && some(rules.get(b), "in", layer, now())) pairs++;
            }
        }
        return pairs;
    }

    int silent(int end, int land) {
        if (noEnd(end) || noLand(land)) return NONE;
        Set<Integer> silent = new TreeSet<>();
        for (int w = 0; w < words.size(); w++) {
            Layer layer = new Layer(w, end);
            if (rules.stream().noneMatch(r -> r.land == land && meetsIt(r, layer, now()))) silent.add(w);
        }
        return bits(silent);
    }

    int hangs(int rule) {
        if (rule < 0 || rule >= rules.size()) return NONE;
        int land = rules.get(rule).land;
        int pairs = 0;
        for (int end = 0; end < 4; end++) {
            Set<Integer> a = heardWords(end, land, new World(set(shown), judge | 1 << rule, Set.of()));
            Set<Integer> b = heardWords(end, land, new World(set(shown), judge & ~(1 << rule), Set.of()));
            for (int w = 0; w < words.size(); w++) {
                pairs += a.contains(w) != b.contains(w) ? 1 : 0;
            }
        }
        return pairs;
    }

    int most() {
        int most = -5;
        for (int r = rules.size() - 1; r >= 0; r--) {
            if (most == -5 || hangs(r) >= hangs(most)) most = r;
        }
        return most;
    }

    int beside(int end, int what) {
        if (noEnd(end) || what < 0 || what > 2) return NONE;
        Set<Integer> a = heardWords(end, 0, now());
        Set<Integer> b = heardWords(end, 1, now());
        if (what == 0) a.removeAll(b);
        if (what == 1) b.removeAll(a);
        if (what == 2) a.retainAll(b);
        return bits(what == 1 ? b : a);
    }

    // ---- ways told, acts, tapes

    private List<Integer> wholeWay(int word, int end, int land) {
        List<Layer> row = new ArrayList<>();
        layers(word, end, 0, row, 70);
        List<Integer> way = new ArrayList<>();
        for (Layer layer : row) {
            for (Rule r : rules) {
                if (r.land == land) way.add(wayThrough(r, layer, now()));
            }
        }
        return way;
    }

    int way(int tape, int i, int word, int end, int land) {
        if (tape < 0 || tape > 5 || noWord(word) || noEnd(end) || noLand(land)) return NONE;
        if (tapes[tape] != null && !(tapes[tape] instanceof byte[])) return CAST;
        byte[] row = tapes[tape] == null ? new byte[0] : (byte[]) tapes[tape];
        List<Integer> way = wholeWay(word, end, land);
        for (int right = 0; right < way.size(); right++) {
            long at = (long) i + right;
            if (at < 0 || at >= row.length) return 100 + right;
            if (row[(int) at] != way.get(right)) return right;
        }
        return way.size();
    }

    /** The numbers that a way should tell: what tests write on a tape. */
    List<Integer> rightWay(int word, int end, int land) {
        return noWord(word) || noEnd(end) || noLand(land) ? List.of() : wholeWay(word, end, land);
    }

    int act(int word, int act, int x) {
        trace = new ArrayList<>();
        if (noWord(word)) return 0;
        Word w = words.get(word);
        w.ran = trace;
        switch (act) {
            case 0: return w.hears(x);
            case 1: return w.keeps(x);
            case 2: return w.tells(x);
            default: return 0;
        }
    }

    int trace(int i) {
        return i < 0 || i >= 20 || i >= trace.size() ? NONE : trace.get(i);
    }

    int taken(int word, int k) {
        if (k < 0 || k > 6) return BAD;
        if (noWord(word)) return NOTHING;
        try {
            CLASSES[k].cast(words.get(word));
            return words.get(word).kind;
        } catch (ClassCastException e) {
            return CAST;
        }
    }

    int count(int what) {
        switch (what) {
            case 0: return words.size();
            case 1: return rules.size();
            case 2: return text.length();
            case 3: return (int) rules.stream().filter(r -> r.land == 0).count();
            case 4: return trace.size();
            default: return BAD;
        }
    }

    int tape(int tape, int sort, int n) {
        if (tape < 0 || tape > 5) return NONE;
        if (sort < -1 || sort > 4) return BAD;
        if (sort >= 0 && n > 60) return BAD;
        try {
            switch (sort) {
                case -1: tapes[tape] = null; break;
                case 0: tapes[tape] = new byte[n]; break;
                case 1: tapes[tape] = new short[n]; break;
                case 2: tapes[tape] = new int[n]; break;
                case 3: tapes[tape] = new long[n]; break;
                default: tapes[tape] = new boolean[n]; break;
            }
            return 1;
        } catch (NegativeArraySizeException e) {
            return SIZE;
        }
    }

    int item(int tape, int i, long v) {
        if (tape < 0 || tape > 5) return NONE;
        Object row = tapes[tape];
        if (row == null) return NOTHING;
        try {
            if (row instanceof byte[] b) b[i] = (byte) v;
            if (row instanceof short[] s) s[i] = (short) v;
            if (row instanceof int[] n) n[i] = (int) v;
            if (row instanceof long[] l) l[i] = v;
            if (row instanceof boolean[] t) t[i] = v != 0;
            return 1;
        } catch (ArrayIndexOutOfBoundsException e) {
            return PLACE;
        }
    }

    long read(int tape, int i) {
        if (tape < 0 || tape > 5) return Long.MIN_VALUE;
        Object row = tapes[tape];
        try {
            if (row instanceof byte[] b) return b[i];
            if (row instanceof short[] s) return s[i];
            if (row instanceof int[] n) return n[i];
            if (row instanceof long[] l) return l[i];
            if (row instanceof boolean[] t) return t[i] ? 1 : 0;
            return Long.MIN_VALUE;
        } catch (ArrayIndexOutOfBoundsException e) {
            return Long.MIN_VALUE;
        }
    }

    int shift(int tape, int i, int other, int j, int n) {
        if (tape < 0 || tape > 5 || other < 0 || other > 5) return NONE;
        try {
            System.arraycopy(tapes[tape], i, tapes[other], j, n);
            return n;
        } catch (NullPointerException e) {
            return NOTHING;
        } catch (ArrayStoreException e) {
            return CAST;
        } catch (ArrayIndexOutOfBoundsException e) {
            return PLACE;
        }
    }

    @Override
    public String toString() {
        StringBuilder s = new StringBuilder();
        for (Rule r : rules) {
            s.append(r.land).append(": ").append(Arrays.toString(r.clauses)).append('\n');
        }
        for (Word w : words) {
            s.append(w.i).append(" kind ").append(w.kind).append(" by ").append(w.b).append(" shows ")
                .append(w.facts).append(" holds ").append(w.parts).append('\n');
        }
        return s.append("shown ").append(shown).append(" judge ").append(judge).toString();
    }
}

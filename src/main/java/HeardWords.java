import java.util.ArrayList;
import java.util.Arrays;

/**
 * What the jury may hear: words, each holding others, by persons of whom this and that is known,
 * and the rules of two lands that keep them out or let them in.
 *
 * Words stand as bits of an int wherever several are meant, and so do facts, rules and clauses.
 */
public final class HeardWords {
    public static final int NONE = -1, BAD = -2, STATE = -3, FULL = -4;
    public static final long NO = Long.MIN_VALUE;

    private static final int MISSING = -5, FAULTY = -10;
    private static final int NOTHING = -11, CAST = -12, PLACE = -13, SIZE = -14;

    private static final int PERSONS = 8, KNOWABLE = 64, WORDS = 14, KINDS = 7, FACTS = 10, FACT_SETS = 1024;
    private static final int ENDS = 4, LANDS = 2, RULES = 10, CLAUSES = 6, TEXT = 100, NESTED = 4;
    private static final int TAPES = 6, PLACES = 60, TRACED = 20, ORDERED = 5, ORDERED_SETS = 32;

    private static final int WORD = 0, SAID = 1, WRITTEN = 2, FOUND = 3, ACT = 4, COPY = 5, TOLD = 6;

    /** The end to which parts are offered, and the one for which no part is asked about. */
    private static final int PARTS_END = 0, SAID_END = 1;

    private static final int OUT = 0, IN = 1, NEED = 2, MAY = 3;

    /** How the sorts of clauses begin, and the letters, signs and figures of tests. */
    private static final String SORTS = "oinm", LETTERS = "khubces", SIGNS = "<=>", FIGURES = "0123456789";
    /** The last of the letters whose tests take any sign; those of others take IS alone. */
    private static final int LAST_COMPARED = 1, IS = 1;

    /** Steps of a condition: a test is thrice its letter's place and its sign's. */
    private static final int KIND_LESS = 0, KIND_IS = 1, KIND_MORE = 2, HEARD_LESS = 3, HEARD_IS = 4, HEARD_MORE = 5;
    private static final int UNDER = 7, BY = 10, KNOWN = 13, END = 16, SHOWN = 19, NOT = 21, AND = 22, OR = 23;

    private static final int EMPTY = -1, BYTES = 0, SHORTS = 1, INTS = 2, LONGS = 3, BOOLEANS = 4;

    private static final int BEYOND_THE_ROW = 100;

    private final Person[] persons = new Person[PERSONS];
    private final ArrayList<Word> words = new ArrayList<Word>();
    private final ArrayList<Rule> rules = new ArrayList<Rule>();
    private final Reader reader = new Reader();
    private final Stand now = new Stand();
    /** Used again for each supposition: a new one each time would fill the room. */
    private final Stand supposed = new Stand();
    private final Tape[] tapes = new Tape[TAPES];
    private final Bodies bodies = new Bodies();
    private final ArrayList<Word> waiting = new ArrayList<Word>();
    private final int[] nextInOrder = new int[ORDERED_SETS];

    public HeardWords() {
        for (int i = 0; i < persons.length; i++) {
            persons[i] = new Person(i);
        }
        for (int i = 0; i < tapes.length; i++) {
            tapes[i] = new Tape();
        }
    }

    // ---- persons, words

    public int known(int person, int bits) {
        Person of = personAt(person);
        if (of == null) {
            return NONE;
        }
        if (!within(bits, KNOWABLE)) {
            return BAD;
        }
        int was = of.known;
        of.known = bits;
        return was;
    }

    public int word(int kind, int person, int facts) {
        Person by = personAt(person);
        if (by == null || !within(kind, KINDS)) {
            return NONE;
        }
        if (!within(facts, FACT_SETS)) {
            return BAD;
        }
        int number = words.size();
        if (number >= WORDS) {
            return FULL;
        }
        words.add(new Word(number, kind, by, facts));
        by.words |= 1 << number;
        return number;
    }

    public int hold(int word, int part) {
        Word holder = wordAt(word);
        Word held = wordAt(part);
        if (holder == null || held == null) {
            return NONE;
        }
        if (part >= word) {
            return BAD;
        }
        if (holder.mayHold() == 0) {
            return CAST;
        }
        if (has(holder.partBits, part)) {
            return STATE;
        }
        if (holder.parts.size() >= holder.mayHold()) {
            return FULL;
        }
        holder.parts.add(held);
        holder.partBits |= 1 << part;
        return holder.parts.size();
    }

    public int of(int word, int what) {
        Word of = wordAt(word);
        if (of == null || !within(what, 8)) {
            return NONE;
        }
        switch (what) {
            case 0:
                return of.kind;
            case 1:
                return of.by.number;
            case 2:
                return of.facts;
            case 3:
                return of.parts.size();
            default:
                Word part = of.partAt(what - 4);
                return part == null ? MISSING : part.number;
        }
    }

    public int show(int facts) {
        if (!within(facts, FACT_SETS)) {
            return BAD;
        }
        int was = now.shown;
        now.shown = facts;
        return was;
    }

    // ---- rules

    public int feed(int bytes, int n) {
        if (!within(n, 5)) {
            return BAD;
        }
        if (reader.length + n > TEXT) {
            return FULL;
        }
        for (int left = n - 1; left >= 0; left--) {
            reader.append((byte) (bytes >> (8 * left)));
        }
        return reader.length;
    }

    public int rule(int land) {
        if (!within(land, LANDS)) {
            return NONE;
        }
        int number = rules.size();
        if (number >= RULES) {
            return FULL;
        }
        Rule rule = reader.readRule(number, land);
        reader.length = 0;
        if (rule == null) {
            return FAULTY - reader.place;
        }
        rules.add(rule);
        return number;
    }

    public int judge(int rules) {
        if (!within(rules, 1 << this.rules.size())) {
            return BAD;
        }
        int was = now.letIn;
        now.letIn = rules;
        return was;
    }

    public int meets(int rule, int word, int end, int what) {
        Rule asked = ruleAt(rule);
        Word of = wordAt(word);
        if (asked == null || of == null || !within(end, ENDS) || !within(what, 3)) {
            return NONE;
        }
        int holding = asked.holding(of, end, now);
        if (what == 0) {
            return holding != 0 ? 1 : 0;
        }
        if (what == 1) {
            return asked.keepsOut(holding, now) ? 1 : 0;
        }
        int clause = asked.clauseOfWay(holding);
        return clause < 0 ? MISSING : clause;
    }

    // ---- heard

    public int heard(int word, int end, int land) {
        Word asked = wordAt(word);
        if (asked == null || !isOffer(end, land)) {
            return NONE;
        }
        return isHeard(asked, end, land, now) ? 1 : 0;
    }

    public int why(int word, int end, int land) {
        Word at = wordAt(word);
        if (at == null || !isOffer(end, land)) {
            return NONE;
        }
        int rule = keeper(at, end, land, now);
        if (rule >= 0) {
            return 100 * word + rule;
        }
        int heard = heardToPartsEnd(withParts(at.partBits), land, now);
        // A word that isn't heard is kept out itself or has a part that isn't heard: so down, part by part.
        for (int depth = 0; depth < WORDS && end != SAID_END; depth++) {
            at = firstUnheard(at, heard);
            if (at == null) {
                return MISSING;
            }
            rule = keeper(at, PARTS_END, land, now);
            if (rule >= 0) {
                return 100 * at.number + rule;
            }
        }
        return MISSING;
    }

    public int least(int word, int end, int land, int what) {
        Word asked = wordAt(word);
        if (asked == null || !isOffer(end, land) || !within(what, 2)) {
            return NONE;
        }
        // A fact that no rule asks about changes nothing, so it is in none of the fewest sets.
        int open = factsAsked(land) & ~now.shown;
        int fewest = FACTS + 1;
        int least = MISSING;
        int rivals = 0;
        for (int facts = 0; facts < FACT_SETS; facts++) {
            int size = Integer.bitCount(facts);
            if ((facts & ~open) != 0 || size > fewest) {
                continue;
            }
            if (!isHeard(asked, end, land, suppose(now.shown | facts, now.letIn, 0))) {
                continue;
            }
            if (size < fewest) {
                fewest = size;
                least = facts;
                rivals = 0;
            }
            rivals++;
        }
        return what == 0 ? least : rivals;
    }

    public int ends(int word, int land) {
        Word asked = wordAt(word);
        if (asked == null || !within(land, LANDS)) {
            return NONE;
        }
        int ends = 0;
        for (int end = 0; end < ENDS; end++) {
            if (isHeard(asked, end, land, now)) {
                ends |= 1 << end;
            }
        }
        return ends;
    }

    public int cut(int word, int end, int land, int what) {
        Word asked = wordAt(word);
        if (asked == null || !isOffer(end, land) || !within(what, 2)) {
            return NONE;
        }
        if (keeper(asked, end, land, now) >= 0) {
            return MISSING;
        }
        int heard = heardToPartsEnd(withParts(asked.partBits), land, now);
        int cut = end == SAID_END ? 0 : unheardPlaces(asked, heard);
        return what == 0 ? cut : asked.factsLeft(cut);
    }

    public int opened(int word, int land) {
        Word opener = wordAt(word);
        if (opener == null || !within(land, LANDS)) {
            return NONE;
        }
        int heard = heardToPartsEnd(allWords(), land, now);
        if (!has(heard, word)) {
            return STATE;
        }
        Stand then = suppose(now.shown | opener.facts, now.letIn, 1 << word);
        return heardToPartsEnd(allWords(), land, then) & ~heard;
    }

    // ---- proof, plans

    public int proved(int land) {
        if (!within(land, LANDS)) {
            return NONE;
        }
        return provedWithout(0, land);
    }

    public int needed(int facts, int land) {
        if (!within(land, LANDS)) {
            return NONE;
        }
        if (!within(facts, FACT_SETS)) {
            return BAD;
        }
        if ((facts & ~provedWithout(0, land)) != 0) {
            return MISSING;
        }
        int needed = 0;
        for (int i = 0; i < words.size(); i++) {
            if ((facts & ~provedWithout(1 << i, land)) != 0) {
                needed |= 1 << i;
            }
        }
        return needed;
    }

    public int plan(int words, int land, int i) {
        if (!within(land, LANDS) || i < -1) {
            return NONE;
        }
        int size = Integer.bitCount(words);
        if (words == 0 || (words & ~allWords()) != 0 || size > ORDERED) {
            return BAD;
        }
        boolean planned = findOrder(words, land);
        if (i < 0) {
            return planned ? 1 : 0;
        }
        return planned && i < size ? wordInOrder(words, i) : NONE;
    }

    // ---- clashes, the judge, lands

    public int clash(int word, int end, int land) {
        Word asked = wordAt(word);
        if (asked == null || !isOffer(end, land)) {
            return NONE;
        }
        int keeping = 0;
        int lettingIn = 0;
        for (int i = 0; i < rules.size(); i++) {
            Rule rule = rules.get(i);
            if (rule.land != land) {
                continue;
            }
            int holding = rule.holding(asked, end, now);
            if (rule.keepsOut(holding, now)) {
                keeping++;
            } else if ((holding & rule.ins) != 0) {
                lettingIn++;
            }
        }
        return keeping * lettingIn;
    }

    public int silent(int end, int land) {
        if (!isOffer(end, land)) {
            return NONE;
        }
        int silent = 0;
        for (int i = 0; i < words.size(); i++) {
            if (!isMet(words.get(i), end, land)) {
                silent |= 1 << i;
            }
        }
        return silent;
    }

    public int hangs(int rule) {
        Rule asked = ruleAt(rule);
        return asked == null ? NONE : hangingOn(asked);
    }

    public int most() {
        int most = MISSING;
        int hanging = -1;
        for (int i = 0; i < rules.size(); i++) {
            int onThis = hangingOn(rules.get(i));
            if (onThis > hanging) {
                hanging = onThis;
                most = i;
            }
        }
        return most;
    }

    public int beside(int end, int what) {
        if (!within(end, ENDS) || !within(what, 3)) {
            return NONE;
        }
        int inFirst = heardTo(end, 0, now, heardToPartsEnd(allWords(), 0, now));
        int inSecond = heardTo(end, 1, now, heardToPartsEnd(allWords(), 1, now));
        if (what == 0) {
            return inFirst & ~inSecond;
        }
        return what == 1 ? inSecond & ~inFirst : inFirst & inSecond;
    }

    // ---- ways told, acts, tapes

    public int way(int tape, int i, int word, int end, int land) {
        Tape told = tapeAt(tape);
        Word asked = wordAt(word);
        if (told == null || asked == null || !isOffer(end, land)) {
            return NONE;
        }
        if (told.sort != EMPTY && told.sort != BYTES) {
            return CAST;
        }
        return rightlyTold(told, i, asked, end, land);
    }

    public int act(int word, int act, int x) {
        bodies.ran = 0;
        Word doer = wordAt(word);
        if (doer == null) {
            return 0;
        }
        switch (act) {
            case 0:
                return bodies.hears(doer, doer.kind, x);
            case 1:
                return bodies.keeps(doer, doer.kind, x);
            case 2:
                return bodies.tells(doer, doer.kind, x);
            default:
                return 0;
        }
    }

    public int trace(int i) {
        return bodies.traced(i);
    }

    public int taken(int word, int k) {
        if (!within(k, KINDS)) {
            return BAD;
        }
        Word taken = wordAt(word);
        if (taken == null) {
            return NOTHING;
        }
        return has(taken.kinds, k) ? taken.kind : CAST;
    }

    public int count(int what) {
        switch (what) {
            case 0:
                return words.size();
            case 1:
                return rules.size();
            case 2:
                return reader.length;
            case 3:
                return rulesOfFirstLand();
            case 4:
                return bodies.ran;
            default:
                return BAD;
        }
    }

    public int tape(int tape, int sort, int n) {
        Tape made = tapeAt(tape);
        if (made == null) {
            return NONE;
        }
        if (sort < EMPTY || sort > BOOLEANS) {
            return BAD;
        }
        if (sort == EMPTY) {
            made.become(EMPTY, 0);
            return 1;
        }
        if (n > PLACES) {
            return BAD;
        }
        if (n < 0) {
            return SIZE;
        }
        made.become(sort, n);
        return 1;
    }

    public int item(int tape, int i, long v) {
        Tape at = tapeAt(tape);
        if (at == null) {
            return NONE;
        }
        if (at.sort == EMPTY) {
            return NOTHING;
        }
        if (!at.hasPlace(i)) {
            return PLACE;
        }
        at.put(i, v);
        return 1;
    }

    public long read(int tape, int i) {
        Tape at = tapeAt(tape);
        return at == null ? NO : at.get(i);
    }

    public int shift(int tape, int i, int other, int j, int n) {
        Tape from = tapeAt(tape);
        Tape to = tapeAt(other);
        if (from == null || to == null) {
            return NONE;
        }
        if (from.sort == EMPTY || to.sort == EMPTY) {
            return NOTHING;
        }
        if (from.sort != to.sort) {
            return CAST;
        }
        if (!from.hasStretch(i, n) || !to.hasStretch(j, n)) {
            return PLACE;
        }
        System.arraycopy(from.items, i, to.items, j, n);
        return n;
    }

    // ---- what stands under a number

    private static boolean within(int i, int n) {
        return i >= 0 && i < n;
    }

    private static boolean has(int bits, int i) {
        return (bits >> i & 1) != 0;
    }

    private static boolean isOffer(int end, int land) {
        return within(end, ENDS) && within(land, LANDS);
    }

    private Person personAt(int i) {
        return i >= 0 && i < persons.length ? persons[i] : null;
    }

    private Word wordAt(int i) {
        return i >= 0 && i < words.size() ? words.get(i) : null;
    }

    private Rule ruleAt(int i) {
        return i >= 0 && i < rules.size() ? rules.get(i) : null;
    }

    private Tape tapeAt(int i) {
        return i >= 0 && i < tapes.length ? tapes[i] : null;
    }

    // ---- sets of words

    private int allWords() {
        return (1 << words.size()) - 1;
    }

    /** These words, and what they hold at any depth: parts are lesser words, so from the highest down. */
    private int withParts(int these) {
        int bits = these;
        for (int i = words.size() - 1; i >= 0; i--) {
            if (has(bits, i)) {
                bits |= words.get(i).partBits;
            }
        }
        return bits;
    }

    private int factsOf(int these) {
        int facts = 0;
        for (int i = 0; i < words.size(); i++) {
            if (has(these, i)) {
                facts |= words.get(i).facts;
            }
        }
        return facts;
    }

    // ---- whether words are heard

    private Stand suppose(int shown, int letIn, int heardBefore) {
        supposed.shown = shown;
        supposed.letIn = letIn;
        supposed.heardBefore = heardBefore;
        return supposed;
    }

    /** The least rule of a land that keeps a layer out; -1: none. */
    private int keeper(Word word, int end, int land, Stand stand) {
        for (int i = 0; i < rules.size(); i++) {
            Rule rule = rules.get(i);
            if (rule.land == land && rule.keepsOut(rule.holding(word, end, stand), stand)) {
                return i;
            }
        }
        return -1;
    }

    /** Those of some words that are heard to the end of parts; a word with a part that isn't among them is not. */
    private int heardToPartsEnd(int among, int land, Stand stand) {
        int heard = 0;
        for (int i = 0; i < words.size(); i++) {
            Word word = words.get(i);
            if (has(among, i) && (word.partBits & ~heard) == 0 && keeper(word, PARTS_END, land, stand) < 0) {
                heard |= 1 << i;
            }
        }
        return heard;
    }

    /** The words that are heard to an end, where those heard to the end of parts are told. */
    private int heardTo(int end, int land, Stand stand, int heardToPartsEnd) {
        if (end == PARTS_END) {
            return heardToPartsEnd;
        }
        int heard = 0;
        for (int i = 0; i < words.size(); i++) {
            Word word = words.get(i);
            boolean partsPass = end == SAID_END || (word.partBits & ~heardToPartsEnd) == 0;
            if (partsPass && keeper(word, end, land, stand) < 0) {
                heard |= 1 << i;
            }
        }
        return heard;
    }

    private boolean isHeard(Word word, int end, int land, Stand stand) {
        if (keeper(word, end, land, stand) >= 0) {
            return false;
        }
        int asked = end == SAID_END ? 0 : withParts(word.partBits);
        for (int i = 0; i < words.size(); i++) {
            if (has(asked, i) && keeper(words.get(i), PARTS_END, land, stand) >= 0) {
                return false;
            }
        }
        return true;
    }

    private static Word firstUnheard(Word holder, int heard) {
        for (int k = 0; k < holder.parts.size(); k++) {
            Word part = holder.parts.get(k);
            if (!has(heard, part.number)) {
                return part;
            }
        }
        return null;
    }

    private static int unheardPlaces(Word holder, int heard) {
        int places = 0;
        for (int k = 0; k < holder.parts.size(); k++) {
            if (!has(heard, holder.parts.get(k).number)) {
                places |= 1 << k;
            }
        }
        return places;
    }

    private int factsAsked(int land) {
        int facts = 0;
        for (int i = 0; i < rules.size(); i++) {
            Rule rule = rules.get(i);
            if (rule.land == land) {
                facts |= rule.factsAsked;
            }
        }
        return facts;
    }

    private boolean isMet(Word word, int end, int land) {
        for (int i = 0; i < rules.size(); i++) {
            Rule rule = rules.get(i);
            if (rule.land == land && rule.holding(word, end, now) != 0) {
                return true;
            }
        }
        return false;
    }

    private int rulesOfFirstLand() {
        int n = 0;
        for (int i = 0; i < rules.size(); i++) {
            if (rules.get(i).land == 0) {
                n++;
            }
        }
        return n;
    }

    // ---- proof, orders, the judge

    /** What is proved when some words, and so all that hold them, are not heard. */
    private int provedWithout(int without, int land) {
        int proved = now.shown;
        int among = allWords() & ~without;
        for (int round = 0; round <= FACTS; round++) {
            int heard = heardToPartsEnd(among, land, suppose(proved, now.letIn, 0));
            int more = proved | factsOf(heard);
            if (more == proved) {
                return proved;
            }
            proved = more;
        }
        return proved;
    }

    /**
     * For each set of the told words (as bits of their places among these) that have come already:
     * the place of the least one with which all others can still come; -1: none. What is heard next
     * hangs on that set alone, not on the order within it. Answers whether there is an order.
     */
    private boolean findOrder(int told, int land) {
        int size = Integer.bitCount(told);
        int all = (1 << size) - 1;
        for (int come = all - 1; come >= 0 && come < nextInOrder.length; come--) {
            int before = wordsAtPlaces(told, come);
            int left = told & ~before;
            Stand stand = suppose(now.shown | factsOf(before), now.letIn, before);
            int heard = heardToPartsEnd(withParts(left), land, stand);
            nextInOrder[come] = -1;
            for (int k = size - 1; k >= 0; k--) {
                boolean comesNow = !has(come, k) && has(heard, wordAtPlace(told, k));
                if (comesNow && ordersOn(come | 1 << k, all)) {
                    nextInOrder[come] = k;
                }
            }
        }
        return ordersOn(0, all);
    }

    private boolean ordersOn(int come, int all) {
        return come == all || come >= 0 && come < nextInOrder.length && nextInOrder[come] >= 0;
    }

    /** The i-th word of the order that was found. */
    private int wordInOrder(int told, int i) {
        int come = 0;
        int next = -1;
        for (int k = 0; k <= i && come >= 0 && come < nextInOrder.length; k++) {
            next = nextInOrder[come];
            come |= 1 << next;
        }
        return wordAtPlace(told, next);
    }

    /** The word at a place among the told ones, from the least on; -1: none. */
    private static int wordAtPlace(int told, int place) {
        int seen = 0;
        for (int i = 0; i < WORDS; i++) {
            if (has(told, i)) {
                if (seen == place) {
                    return i;
                }
                seen++;
            }
        }
        return -1;
    }

    private static int wordsAtPlaces(int told, int places) {
        int bits = 0;
        for (int k = 0; k < ORDERED; k++) {
            int word = wordAtPlace(told, k);
            if (word >= 0 && has(places, k)) {
                bits |= 1 << word;
            }
        }
        return bits;
    }

    private int hangingOn(Rule rule) {
        if (rule.mays == 0) {
            return 0;
        }
        int with = now.letIn | 1 << rule.number;
        int without = now.letIn & ~(1 << rule.number);
        int partsWith = heardToPartsEnd(allWords(), rule.land, suppose(now.shown, with, 0));
        int partsWithout = heardToPartsEnd(allWords(), rule.land, suppose(now.shown, without, 0));
        int hanging = 0;
        for (int end = 0; end < ENDS; end++) {
            int heardWith = heardTo(end, rule.land, suppose(now.shown, with, 0), partsWith);
            int heardWithout = heardTo(end, rule.land, suppose(now.shown, without, 0), partsWithout);
            hanging += Integer.bitCount(heardWith ^ heardWithout);
        }
        return hanging;
    }

    // ---- ways told

    private int rightlyTold(Tape told, int from, Word word, int end, int land) {
        int right = 0;
        int at = end;
        waiting.clear();
        waiting.add(word);
        // Each layer takes a place of the row for each rule, so that more layers than places never come.
        for (int layer = 0; layer <= PLACES && !waiting.isEmpty(); layer++) {
            Word next = waiting.remove(waiting.size() - 1);
            for (int i = 0; i < rules.size(); i++) {
                Rule rule = rules.get(i);
                if (rule.land != land) {
                    continue;
                }
                if (!told.hasPlace(from + right)) {
                    return BEYOND_THE_ROW + right;
                }
                if (told.get(from + right) != rule.clauseOfWay(rule.holding(next, at, now))) {
                    return right;
                }
                right++;
            }
            if (at != SAID_END) {
                letPartsWait(next);
            }
            at = PARTS_END;
        }
        return right;
    }

    private void letPartsWait(Word holder) {
        for (int k = holder.parts.size() - 1; k >= 0; k--) {
            waiting.add(holder.parts.get(k));
        }
    }

    /** The kind next above a kind; of the highest one itself. */
    private static int kindAbove(int kind) {
        switch (kind) {
            case WRITTEN:
            case TOLD:
                return SAID;
            case COPY:
                return WRITTEN;
            default:
                return WORD;
        }
    }

    private static final class Person {
        final int number;
        int known;
        int words;

        Person(int number) {
            this.number = number;
        }
    }

    private static final class Word {
        final int number;
        final int kind;
        /** Its kind and all above that, as bits. */
        final int kinds;
        final Person by;
        final int facts;
        final ArrayList<Word> parts = new ArrayList<Word>();
        int partBits;

        Word(int number, int kind, Person by, int facts) {
            this.number = number;
            this.kind = kind;
            this.by = by;
            this.facts = facts;
            this.kinds = 1 << kind | 1 << kindAbove(kind) | 1 << kindAbove(kindAbove(kind)) | 1 << WORD;
        }

        int mayHold() {
            if (kind == TOLD) {
                return 1;
            }
            return kind == WRITTEN || kind == COPY ? 4 : 0;
        }

        Word partAt(int k) {
            return k >= 0 && k < parts.size() ? parts.get(k) : null;
        }

        /** Its own facts, less the own facts of parts at some places. */
        int factsLeft(int places) {
            int left = facts;
            for (int k = 0; k < parts.size(); k++) {
                if (has(places, k)) {
                    left &= ~parts.get(k).facts;
                }
            }
            return left;
        }
    }

    /** How things stand, or are supposed to, when it is asked whether a layer is kept out. */
    private static final class Stand {
        int shown;
        int letIn;
        int heardBefore;
    }

    private static final class Clause {
        final int sort;
        final int fact;
        final int[] steps;

        Clause(int sort, int fact, int[] steps) {
            this.sort = sort;
            this.fact = fact;
            this.steps = steps;
        }

        boolean holds(Word word, int end, int shown, int heardBefore) {
            // A stack of truths, the latest one lowest: with at most 4 brackets some ten stand open.
            int truths = 0;
            for (int step : steps) {
                int sort = step / 10;
                if (sort == NOT) {
                    truths ^= 1;
                } else if (sort == AND) {
                    truths = truths >> 1 & (truths | ~1);
                } else if (sort == OR) {
                    truths = truths >> 1 | truths & 1;
                } else {
                    truths = truths << 1 | (passes(step, word, end, shown, heardBefore) ? 1 : 0);
                }
            }
            return (truths & 1) != 0;
        }

        private static boolean passes(int step, Word word, int end, int shown, int heardBefore) {
            int figure = step % 10;
            switch (step / 10) {
                case KIND_LESS:
                    return word.kind < figure;
                case KIND_IS:
                    return word.kind == figure;
                case KIND_MORE:
                    return word.kind > figure;
                case HEARD_LESS:
                    return heardBefore < figure;
                case HEARD_IS:
                    return heardBefore == figure;
                case HEARD_MORE:
                    return heardBefore > figure;
                case UNDER:
                    return (word.kinds >> figure & 1) != 0;
                case BY:
                    return word.by.number == figure;
                case KNOWN:
                    return (word.by.known >> figure & 1) != 0;
                case END:
                    return end == figure;
                case SHOWN:
                    return (shown >> figure & 1) != 0;
                default:
                    return false;
            }
        }
    }

    private static final class Rule {
        final int number;
        final int land;
        final ArrayList<Clause> clauses = new ArrayList<Clause>();
        int outs;
        int ins;
        int mays;
        /** Facts about which it asks, by a test or by a need. */
        int factsAsked;

        Rule(int number, int land) {
            this.number = number;
            this.land = land;
        }

        void add(Clause clause) {
            int bit = 1 << clauses.size();
            clauses.add(clause);
            if (clause.sort == OUT) {
                outs |= bit;
            } else if (clause.sort == IN) {
                ins |= bit;
            } else if (clause.sort == MAY) {
                mays |= bit;
            }
        }

        /** The clauses that hold of a layer, as bits. */
        int holding(Word word, int end, Stand stand) {
            int heardBefore = Integer.bitCount(word.by.words & stand.heardBefore);
            int holding = 0;
            for (int i = 0; i < clauses.size(); i++) {
                if (clauses.get(i).holds(word, end, stand.shown, heardBefore)) {
                    holding |= 1 << i;
                }
            }
            return holding;
        }

        boolean keepsOut(int holding, Stand stand) {
            if ((holding & outs) != 0 && (holding & ins) == 0) {
                return true;
            }
            if ((holding & mays) != 0 && !has(stand.letIn, number)) {
                return true;
            }
            return (holding & unmetNeeds(stand)) != 0;
        }

        private int unmetNeeds(Stand stand) {
            int unmet = 0;
            for (int i = 0; i < clauses.size(); i++) {
                Clause clause = clauses.get(i);
                if (clause.sort == NEED && !has(stand.shown, clause.fact)) {
                    unmet |= 1 << i;
                }
            }
            return unmet;
        }

        /** The first clause by which an out that holds is overcome; -1: none. */
        int clauseOfWay(int holding) {
            if ((holding & outs) == 0 || (holding & ins) == 0) {
                return -1;
            }
            return Integer.numberOfTrailingZeros(holding & ins);
        }
    }

    /** The text, and what reads it: once it is faulty, the place stays, and is the fault. */
    private static final class Reader {
        private final byte[] text = new byte[TEXT];
        private final int[] steps = new int[TEXT];
        private int length;
        private int place;
        private boolean faulty;
        private int stepCount;
        private int factsAsked;

        private void append(byte b) {
            if (length >= 0 && length < text.length) {
                text[length] = b;
                length++;
            }
        }

        /** The whole text as a rule; null: it is faulty at the place. */
        private Rule readRule(int number, int land) {
            place = 0;
            faulty = false;
            factsAsked = 0;
            Rule rule = new Rule(number, land);
            boolean more = true;
            for (int i = 0; i < CLAUSES && more; i++) {
                rule.add(readClause());
                more = i + 1 < CLAUSES && accept(';');
            }
            rule.factsAsked = factsAsked;
            return faulty || place < length ? null : rule;
        }

        private Clause readClause() {
            int sort = readSort();
            int fact = 0;
            if (sort == NEED) {
                fact = pick(FIGURES);
                factsAsked |= 1 << fact;
                expectAll(" ");
            }
            stepCount = 0;
            readCondition(0);
            return new Clause(sort, fact, Arrays.copyOf(steps, Math.max(stepCount, 0)));
        }

        private int readSort() {
            int sort = pick(SORTS);
            switch (sort) {
                case OUT:
                    expectAll("ut ");
                    break;
                case IN:
                    expectAll("n ");
                    break;
                case NEED:
                    expectAll("eed ");
                    break;
                default:
                    expectAll("ay ");
                    break;
            }
            return sort;
        }

        /** An or waits till the ands behind it are read, as they bind more closely. */
        private void readCondition(int depth) {
            boolean orWaits = false;
            readOne(depth);
            boolean more = true;
            for (int i = 0; i < TEXT && more; i++) {
                if (accept('&')) {
                    readOne(depth);
                    put(AND, 0);
                } else if (accept('|')) {
                    if (orWaits) {
                        put(OR, 0);
                    }
                    orWaits = true;
                    readOne(depth);
                } else {
                    more = false;
                }
            }
            if (orWaits) {
                put(OR, 0);
            }
        }

        private void readOne(int depth) {
            if (depth < NESTED && accept('!')) {
                readOne(depth + 1);
                put(NOT, 0);
            } else if (depth < NESTED && accept('(')) {
                readCondition(depth + 1);
                expectAll(")");
            } else {
                readTest();
            }
        }

        private void readTest() {
            int letter = pick(LETTERS);
            int sign = IS;
            if (letter <= LAST_COMPARED) {
                sign = pick(SIGNS);
            } else {
                pick("=");
            }
            int test = 3 * letter + sign;
            int figure = pick(FIGURES);
            if (test == SHOWN) {
                factsAsked |= 1 << figure;
            }
            put(test, figure);
        }

        /** The next byte; -1: there is none, or the text is faulty. */
        private int peek() {
            boolean there = !faulty && place < length && place >= 0 && place < text.length;
            return there ? text[place] & 255 : -1;
        }

        private boolean accept(char sign) {
            if (peek() != sign) {
                return false;
            }
            place++;
            return true;
        }

        private void expectAll(String signs) {
            for (int i = 0; i < signs.length(); i++) {
                if (!accept(signs.charAt(i))) {
                    faulty = true;
                }
            }
        }

        /** The place among some signs of the one that comes next; it is faulty if none of them does. */
        private int pick(String signs) {
            int next = peek();
            int at = next < 0 ? -1 : signs.indexOf((char) next);
            if (at < 0) {
                faulty = true;
                return 0;
            }
            place++;
            return at;
        }

        private void put(int step, int figure) {
            if (stepCount >= 0 && stepCount < steps.length) {
                steps[stepCount] = 10 * step + figure;
                stepCount++;
            }
        }
    }

    /** The bodies of acts, each found from a kind on upwards, and the trace of those that ran. */
    private static final class Bodies {
        private final int[] trace = new int[TRACED];
        private int ran;

        private int hears(Word word, int kind, int x) {
            switch (kind) {
                case WORD:
                    begin(10);
                    return x + word.number;
                case WRITTEN:
                    begin(30);
                    return hears(word, kindAbove(WRITTEN), x * 3);
                case FOUND:
                    begin(40);
                    return -hears(word, kindAbove(FOUND), x);
                case TOLD:
                    begin(71);
                    return hears(word, kindAbove(TOLD), x) ^ word.by.number;
                default:
                    return hears(word, kindAbove(kind), x);
            }
        }

        private int keeps(Word word, int kind, int x) {
            switch (kind) {
                case WORD:
                    begin(11);
                    return hears(word, word.kind, x) - word.by.number;
                case SAID:
                    begin(20);
                    return keeps(word, kindAbove(SAID), x) ^ 5;
                case COPY:
                    begin(60);
                    return keeps(word, kindAbove(COPY), x) + hears(word, kindAbove(COPY), 2);
                default:
                    return keeps(word, kindAbove(kind), x);
            }
        }

        private int tells(Word word, int kind, int x) {
            switch (kind) {
                case WORD:
                    begin(12);
                    return keeps(word, word.kind, x) * 2;
                case WRITTEN:
                    begin(31);
                    return tells(word, kindAbove(WRITTEN), x) + keeps(word, word.kind, 1);
                case ACT:
                    begin(50);
                    return tells(word, kindAbove(ACT), x - word.number);
                case TOLD:
                    begin(70);
                    return keeps(word, word.kind, x) - tells(word, kindAbove(TOLD), x);
                default:
                    return tells(word, kindAbove(kind), x);
            }
        }

        private void begin(int body) {
            if (ran >= 0 && ran < trace.length) {
                trace[ran] = body;
            }
            ran++;
        }

        private int traced(int i) {
            return i >= 0 && i < ran && i < trace.length ? trace[i] : NONE;
        }
    }

    /** A row of items of some sort, each kept as the long with its worth. */
    private static final class Tape {
        private final long[] items = new long[PLACES];
        private int sort = EMPTY;
        private int size;

        private void become(int newSort, int newSize) {
            sort = newSort;
            size = newSize;
            Arrays.fill(items, 0L);
        }

        private boolean hasPlace(int i) {
            return i >= 0 && i < size && i < items.length;
        }

        private boolean hasStretch(int from, int n) {
            return n >= 0 && from >= 0 && from <= size && n <= size - from && size <= items.length;
        }

        private long get(int i) {
            return hasPlace(i) ? items[i] : NO;
        }

        private void put(int i, long v) {
            if (hasPlace(i)) {
                items[i] = fitted(v);
            }
        }

        private long fitted(long v) {
            switch (sort) {
                case BYTES:
                    return (byte) v;
                case SHORTS:
                    return (short) v;
                case INTS:
                    return (int) v;
                case LONGS:
                    return v;
                default:
                    return v != 0 ? 1 : 0;
            }
        }
    }
}

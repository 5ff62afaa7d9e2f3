import java.util.ArrayList;

/**
 * A desk for questions to rules: what follows of facts by rules, and which calls one question leads to.
 * The calls are found by rewritten rules over the model of all, since the document asks for that model too.
 */
public final class QuestionDesk {
    public static final int NONE = -1;

    private static final int CONSTANTS = 10;
    private static final int VARIABLES = 8;
    private static final int LAST_CONSTANT = CONSTANTS - 1;
    private static final int LAST_TERM = CONSTANTS + VARIABLES - 1;
    private static final int MOST_PREDICATES = 10;
    private static final int MOST_RULES = 30;
    private static final int MOST_ATOMS = 3;

    /** A place that a call leaves free, and the second place of a predicate that has but one. */
    private static final int FREE = -1;
    /** A variable that stands once alone in a rule: what it is matters to no other place. */
    private static final int ANY = LAST_TERM + 1;

    // The sets of pairs: of each predicate its model, its calls and what is told; then the answers.
    // The model's stand first, so that the sets in a told rule are the numbers of its predicates too.
    private static final int MODEL = 0;
    private static final int CALLS = MODEL + MOST_PREDICATES;
    private static final int TOLD = CALLS + MOST_PREDICATES;
    private static final int ANSWERS = TOLD + MOST_PREDICATES;
    private static final int SETS = ANSWERS + 1;

    private static final int FIRST_BOUND = 1;
    private static final int SECOND_BOUND = 2;
    private static final int PATTERNS = 4;

    /** Each pass but the last one finds a fact, a call or a pattern: there are far fewer of them. */
    private static final int MOST_PASSES = 10_000;

    private final int[] places = new int[MOST_PREDICATES];
    private final boolean[] byRules = new boolean[MOST_PREDICATES];
    private int predicates = 0;

    private final ArrayList<Rule> rules = new ArrayList<>();
    private Rule begun = null;

    private final Pairs pairs = new Pairs();
    private final Matcher matcher = new Matcher(pairs);
    private final Rule rewritten = new Rule();

    /** Of each predicate its patterns: bit k for the pattern k, a sum of FIRST_BOUND and SECOND_BOUND. */
    private final int[] patterns = new int[MOST_PREDICATES];
    private int rewrittenRules = 0;
    private boolean asked = false;
    private int predicatesThen = 0;

    public QuestionDesk() {
    }

    public int predicate(int places, boolean rules) throws IllegalArgumentException {
        demand(places == 1 || places == 2);
        if (predicates >= MOST_PREDICATES) {
            return NONE;
        }
        int p = predicates;
        this.places[p] = places;
        byRules[p] = rules;
        predicates++;
        return p;
    }

    public boolean fact(int p, int x, int y) throws IllegalArgumentException {
        demand(hasPlaces(p, x, y, 0, LAST_CONSTANT) && !byRules[p]);
        return pairs.put(TOLD + p, x, y);
    }

    public boolean drop(int p, int x, int y) throws IllegalArgumentException {
        demand(hasPlaces(p, x, y, 0, LAST_CONSTANT) && !byRules[p]);
        return pairs.remove(TOLD + p, x, y);
    }

    public void head(int p, int x, int y) throws IllegalArgumentException {
        demand(hasPlaces(p, x, y, 0, LAST_TERM) && byRules[p]);
        begun = new Rule();
        begun.begin(MODEL + p, x, y);
    }

    public int body(int p, int x, int y) throws IllegalStateException, IllegalArgumentException {
        if (begun == null || begun.atoms >= MOST_ATOMS) {
            throw new IllegalStateException("no rule has begun, or its body is full");
        }
        demand(hasPlaces(p, x, y, 0, LAST_TERM));
        begun.append(MODEL + p, x, y);
        return begun.atoms;
    }

    public int done() throws IllegalStateException {
        if (begun == null) {
            throw new IllegalStateException("no rule has begun");
        }
        Rule rule = begun;
        begun = null;
        if (rule.atoms == 0 || !rule.isSafe() || rules.size() >= MOST_RULES) {
            return NONE;
        }
        rule.blankLoneVariables();
        rules.add(rule);
        return rules.size() - 1;
    }

    public boolean take(int rule) {
        if (rule < 0 || rule >= rules.size()) {
            return false;
        }
        rules.remove(rule);
        return true;
    }

    public int ask(int p, int x, int y) throws IllegalArgumentException {
        demand(hasPlaces(p, x, y, 0, LAST_TERM));
        asked = true;
        predicatesThen = predicates;
        pairs.startQuestion();
        findModel();
        findAnswers(p, x, y);
        startCalls(p, x, y);
        spreadCalls();
        rewrittenRules = countRewrittenRules();
        return pairs.size(ANSWERS);
    }

    public int answer(int i) {
        int before = 0;
        for (int x = 0; x < CONSTANTS; x++) {
            for (int y = FREE; y < CONSTANTS; y++) {
                if (pairs.has(ANSWERS, x, y)) {
                    if (before == i) {
                        return y == FREE ? x : 10 * x + y;
                    }
                    before++;
                }
            }
        }
        return NONE;
    }

    public boolean holds(int p, int x, int y) throws IllegalArgumentException {
        demand(hasPlaces(p, x, y, 0, LAST_CONSTANT));
        return pairs.has(MODEL + p, x, y);
    }

    public boolean wanted(int p, int x, int y) throws IllegalArgumentException {
        demand(hasPlaces(p, x, y, 0, LAST_CONSTANT));
        return Pairs.isIn(calledForRow(p, x), y);
    }

    public boolean called(int p, int x, int y) throws IllegalArgumentException {
        demand(hasPlaces(p, x, y, FREE, LAST_CONSTANT));
        return pairs.has(CALLS + p, x, y);
    }

    public int of(int p, int what) {
        if (!asked || p < 0 || p >= predicatesThen) {
            return NONE;
        }
        switch (what) {
            case 0:
                return pairs.size(MODEL + p);
            case 1:
                return calledForSize(p);
            case 2:
                return pairs.size(CALLS + p);
            case 3:
                return Integer.bitCount(patterns[p]);
            default:
                return NONE;
        }
    }

    public int count(int what) {
        switch (what) {
            case 0:
                return predicates;
            case 1:
                return rules.size();
            case 2:
                return sizeOfAll(TOLD);
            default:
                return asked ? countOfQuestion(what) : NONE;
        }
    }

    private int countOfQuestion(int what) {
        switch (what) {
            case 3:
                return patternsOfAll();
            case 4:
                return rewrittenRules;
            case 5:
                return sizeOfAll(CALLS);
            case 6:
                return calledForOfAll();
            default:
                return NONE;
        }
    }

    private static void demand(boolean right) {
        if (!right) {
            throw new IllegalArgumentException("no such predicate, or not for its places");
        }
    }

    /** Whether p is a predicate, and each of its places has one of low .. high. */
    private boolean hasPlaces(int p, int x, int y, int low, int high) {
        if (p < 0 || p >= predicates || x < low || x > high) {
            return false;
        }
        return places[p] == 1 ? y == FREE : y >= low && y <= high;
    }

    private void findModel() {
        boolean news = true;
        for (int pass = 0; news && pass < MOST_PASSES; pass++) {
            news = false;
            for (int r = 0; r < rules.size(); r++) {
                news |= matcher.follow(rules.get(r));
            }
        }
    }

    private void findAnswers(int p, int x, int y) {
        rewritten.begin(ANSWERS, x, y);
        rewritten.append(MODEL + p, x, y);
        matcher.follow(rewritten);
    }

    /** The question is the first call, and has the first pattern. */
    private void startCalls(int p, int x, int y) {
        for (int q = 0; q < MOST_PREDICATES; q++) {
            patterns[q] = 0;
        }
        if (byRules[p]) {
            int boundX = boundOrFree(x, 0);
            int boundY = boundOrFree(y, 0);
            addPattern(p, boundX, boundY);
            pairs.put(CALLS + p, boundX, boundY);
        }
    }

    private void spreadCalls() {
        boolean news = true;
        for (int pass = 0; news && pass < MOST_PASSES; pass++) {
            news = false;
            for (int r = 0; r < rules.size(); r++) {
                Rule rule = rules.get(r);
                for (int pattern = 0; pattern < PATTERNS; pattern++) {
                    if ((patterns[rule.sets[0]] >> pattern & 1) != 0) {
                        news |= callByPattern(rule, pattern);
                    }
                }
            }
        }
    }

    /** Of the calls with one pattern, follows the rewritten rules for the atoms that one rule calls. */
    private boolean callByPattern(Rule rule, int pattern) {
        int headX = (pattern & FIRST_BOUND) != 0 ? rule.firsts[0] : FREE;
        int headY = (pattern & SECOND_BOUND) != 0 ? rule.seconds[0] : FREE;
        int known = variableBit(headX) | variableBit(headY);
        boolean news = false;
        for (int a = 1; a <= rule.atoms; a++) {
            int q = rule.sets[a];
            if (byRules[q]) {
                int x = boundOrFree(rule.firsts[a], known);
                int y = boundOrFree(rule.seconds[a], known);
                news |= addPattern(q, x, y);
                rewritten.begin(CALLS + q, x, y);
                rewritten.append(CALLS + rule.sets[0], headX, headY);
                rewritten.appendBefore(rule, a);
                rewritten.blankLoneVariables();
                news |= matcher.follow(rewritten);
            }
            known |= variableBit(rule.firsts[a]) | variableBit(rule.seconds[a]);
        }
        return news;
    }

    private boolean addPattern(int p, int x, int y) {
        int pattern = (x == FREE ? 0 : FIRST_BOUND) + (y == FREE ? 0 : SECOND_BOUND);
        int before = patterns[p];
        patterns[p] = before | 1 << pattern;
        return patterns[p] != before;
    }

    private static int boundOrFree(int term, int known) {
        return term < CONSTANTS || (variableBit(term) & known) != 0 ? term : FREE;
    }

    private static int variableBit(int term) {
        return isVariable(term) ? 1 << term : 0;
    }

    private static boolean isVariable(int term) {
        return term >= CONSTANTS && term <= LAST_TERM;
    }

    private int countRewrittenRules() {
        int sum = 0;
        for (int r = 0; r < rules.size(); r++) {
            Rule rule = rules.get(r);
            int each = 1;
            for (int a = 1; a <= rule.atoms; a++) {
                each += byRules[rule.sets[a]] ? 1 : 0;
            }
            sum += each * Integer.bitCount(patterns[rule.sets[0]]);
        }
        return sum;
    }

    /** The model's row of x, less what no call asks for. */
    private int calledForRow(int p, int x) {
        int facts = pairs.row(MODEL + p, x);
        int calls = pairs.row(CALLS + p, FREE) | pairs.row(CALLS + p, x);
        return Pairs.isIn(calls, FREE) ? facts : facts & calls;
    }

    private int calledForSize(int p) {
        int sum = 0;
        for (int x = 0; x < CONSTANTS; x++) {
            sum += Integer.bitCount(calledForRow(p, x));
        }
        return sum;
    }

    private int calledForOfAll() {
        int sum = 0;
        for (int p = 0; p < MOST_PREDICATES; p++) {
            sum += calledForSize(p);
        }
        return sum;
    }

    private int patternsOfAll() {
        int sum = 0;
        for (int p = 0; p < MOST_PREDICATES; p++) {
            sum += Integer.bitCount(patterns[p]);
        }
        return sum;
    }

    private int sizeOfAll(int kind) {
        int sum = 0;
        for (int p = 0; p < MOST_PREDICATES; p++) {
            sum += pairs.size(kind + p);
        }
        return sum;
    }

    /** Sets of pairs with places -1 (FREE) .. 9: of each set and first place a row of bits, one for each second place. */
    private static final class Pairs {
        private static final int SIDE = CONSTANTS + 1;

        private final int[] rows = new int[SETS * SIDE];

        static boolean isIn(int row, int y) {
            return (row >> (y + 1) & 1) != 0;
        }

        int row(int set, int x) {
            return rows[set * SIDE + x + 1];
        }

        /** All second places that stand beside a constant. */
        int rowOfAny(int set) {
            int all = 0;
            for (int x = 0; x < CONSTANTS; x++) {
                all |= row(set, x);
            }
            return all;
        }

        boolean has(int set, int x, int y) {
            return isIn(row(set, x), y);
        }

        boolean put(int set, int x, int y) {
            int i = set * SIDE + x + 1;
            int before = rows[i];
            rows[i] = before | 1 << (y + 1);
            return rows[i] != before;
        }

        boolean remove(int set, int x, int y) {
            int i = set * SIDE + x + 1;
            int before = rows[i];
            rows[i] = before & ~(1 << (y + 1));
            return rows[i] != before;
        }

        int size(int set) {
            int sum = 0;
            for (int x = FREE; x < CONSTANTS; x++) {
                sum += Integer.bitCount(row(set, x));
            }
            return sum;
        }

        /** The model begins with what is told now; no calls and no answers are left. */
        void startQuestion() {
            for (int i = 0; i < MOST_PREDICATES * SIDE; i++) {
                rows[MODEL * SIDE + i] = rows[TOLD * SIDE + i];
                rows[CALLS * SIDE + i] = 0;
            }
            for (int i = 0; i < SIDE; i++) {
                rows[ANSWERS * SIDE + i] = 0;
            }
        }
    }

    /** A rule over sets of pairs, one that is told or one that is rewritten: atom 0 is its head. */
    private static final class Rule {
        final int[] sets = new int[MOST_ATOMS + 1];
        final int[] firsts = new int[MOST_ATOMS + 1];
        final int[] seconds = new int[MOST_ATOMS + 1];
        int atoms = 0;

        void begin(int set, int x, int y) {
            atoms = 0;
            write(0, set, x, y);
        }

        void append(int set, int x, int y) {
            if (atoms < MOST_ATOMS) {
                atoms++;
                write(atoms, set, x, y);
            }
        }

        void appendBefore(Rule other, int end) {
            for (int a = 1; a < end && a <= other.atoms; a++) {
                append(other.sets[a], other.firsts[a], other.seconds[a]);
            }
        }

        private void write(int a, int set, int x, int y) {
            sets[a] = set;
            firsts[a] = x;
            seconds[a] = y;
        }

        /** Whether each variable of the head is in the body. */
        boolean isSafe() {
            int body = 0;
            for (int a = 1; a <= atoms; a++) {
                body |= variablesOf(a);
            }
            return (variablesOf(0) & ~body) == 0;
        }

        private int variablesOf(int a) {
            return variableBit(firsts[a]) | variableBit(seconds[a]);
        }

        /** Spares the matcher from going through values that no other place looks at. */
        void blankLoneVariables() {
            int once = 0;
            int again = 0;
            for (int a = 0; a <= atoms; a++) {
                again |= once & variableBit(firsts[a]);
                once |= variableBit(firsts[a]);
                again |= once & variableBit(seconds[a]);
                once |= variableBit(seconds[a]);
            }
            for (int a = 0; a <= atoms; a++) {
                firsts[a] = blankUnless(again, firsts[a]);
                seconds[a] = blankUnless(again, seconds[a]);
            }
        }

        private static int blankUnless(int kept, int term) {
            return isVariable(term) && (variableBit(term) & kept) == 0 ? ANY : term;
        }
    }

    /** Finds all ways in which a rule's body becomes pairs of the sets, and puts the head's pairs of them. */
    private static final class Matcher {
        /** The value of a variable that has none yet. */
        private static final int OPEN = -2;

        private final Pairs pairs;
        /** Of each term what it stands for now, at its number + 1: FREE and constants for themselves, ANY for none. */
        private final int[] values = new int[ANY + 2];

        Matcher(Pairs pairs) {
            this.pairs = pairs;
            for (int term = FREE; term <= ANY; term++) {
                values[term + 1] = term < CONSTANTS ? term : OPEN;
            }
        }

        /** Whether a pair is new by it; pairs that are put on the way may be seen by the next pass alone. */
        boolean follow(Rule rule) {
            return matchAtom(rule, 1);
        }

        private boolean matchAtom(Rule rule, int a) {
            int headX = values[rule.firsts[0] + 1];
            int headY = values[rule.seconds[0] + 1];
            boolean isHeadKnown = headX != OPEN && headY != OPEN;
            if (isHeadKnown && pairs.has(rule.sets[0], headX, headY)) {
                // nothing new can come of this way, however the other atoms are matched
                return false;
            }
            if (a > rule.atoms) {
                return isHeadKnown && pairs.put(rule.sets[0], headX, headY);
            }
            int set = rule.sets[a];
            int term = rule.firsts[a];
            if (term == ANY) {
                return matchSecond(rule, a, pairs.rowOfAny(set));
            }
            if (values[term + 1] != OPEN) {
                return matchSecond(rule, a, pairs.row(set, values[term + 1]));
            }
            boolean news = false;
            for (int x = 0; x < CONSTANTS; x++) {
                values[term + 1] = x;
                news |= matchSecond(rule, a, pairs.row(set, x));
            }
            values[term + 1] = OPEN;
            return news;
        }

        private boolean matchSecond(Rule rule, int a, int row) {
            int term = rule.seconds[a];
            if (term == ANY) {
                // a variable stands for constants alone, so the lowest bit, FREE, does not count
                return row >> 1 != 0 && matchAtom(rule, a + 1);
            }
            if (values[term + 1] != OPEN) {
                return Pairs.isIn(row, values[term + 1]) && matchAtom(rule, a + 1);
            }
            boolean news = false;
            for (int y = 0; y < CONSTANTS && row >> (y + 1) != 0; y++) {
                if (Pairs.isIn(row, y)) {
                    values[term + 1] = y;
                    news |= matchAtom(rule, a + 1);
                }
            }
            values[term + 1] = OPEN;
            return news;
        }
    }
}

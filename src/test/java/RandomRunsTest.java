import java.util.Random;
import java.util.function.Supplier;

/** Random runs of calls, each answer compared with the one of a plain reading of the document. */
public final class RandomRunsTest {
    private static final int RUNS = 1500;
    private static final int MOST_CALLS = 512;
    private static final int MOST_CALLS_OF_A_STEP = 6;

    private static final Checks checks = new Checks();

    private final Random random;
    private final QuestionDesk desk = new QuestionDesk();
    private final PlainDesk plain = new PlainDesk();
    private final String run;
    private final int constants;
    private final int variables;
    private final int mostFacts;
    private final int mostRules;
    private final int[] places = new int[10];
    private int predicates = 0;
    private int calls = 0;

    private RandomRunsTest(int run) {
        random = new Random(run);
        this.run = "run " + run + ": ";
        constants = 2 + random.nextInt(9);
        variables = 2 + random.nextInt(7);
        mostFacts = 3 + random.nextInt(20);
        mostRules = 1 + random.nextInt(12);
    }

    public static void main(String[] args) {
        for (int run = 0; run < RUNS; run++) {
            new RandomRunsTest(run).play();
        }
        checks.end("RandomRunsTest");
    }

    private void play() {
        int first = 2 + random.nextInt(8);
        for (int i = 0; i < first; i++) {
            addPredicate();
        }
        while (calls + MOST_CALLS_OF_A_STEP <= MOST_CALLS) {
            step();
        }
    }

    private void step() {
        switch (random.nextInt(40)) {
            case 0 -> addPredicate();
            case 1, 2, 3, 4, 5, 6 -> addFact();
            case 7, 8 -> atomCall("drop", desk::drop, plain::drop, this::constant);
            case 9, 10, 11 -> addRule();
            case 12 -> wildAtomCalls();
            case 13 -> atomCall("head", this::begin, this::beginPlain, this::term);
            case 14 -> atomCall("body", desk::body, plain::body, this::term);
            case 15 -> compare("done", desk::done, plain::done);
            case 16 -> {
                int rule = random.nextInt(mostRules + 2) - 1;
                compare("take " + rule, () -> desk.take(rule), () -> plain.take(rule));
            }
            case 17, 18, 19 -> atomCall("ask", desk::ask, plain::ask, this::term);
            case 20, 21, 22, 23 -> {
                int i = random.nextInt(random.nextBoolean() ? 5 : 102) - 1;
                compare("answer " + i, () -> desk.answer(i), () -> plain.answer(i));
            }
            case 24, 25, 26 -> atomCall("holds", desk::holds, plain::holds, this::constant);
            case 27, 28, 29 -> atomCall("wanted", desk::wanted, plain::wanted, this::constant);
            case 30, 31, 32 -> atomCall("called", desk::called, plain::called, this::constantOrFree);
            case 33, 34, 35 -> {
                int p = random.nextInt(12) - 1;
                int what = random.nextInt(6) - 1;
                compare("of " + p + " " + what, () -> desk.of(p, what), () -> plain.of(p, what));
            }
            default -> {
                int what = random.nextInt(9) - 1;
                compare("count " + what, () -> desk.count(what), () -> plain.count(what));
            }
        }
    }

    private void addPredicate() {
        int ofPlaces = random.nextInt(20) == 0 ? random.nextInt(5) - 1 : 1 + (random.nextInt(4) > 0 ? 1 : 0);
        boolean rules = predicates == 0 ? false : predicates == 1 || random.nextBoolean();
        compare("predicate", () -> desk.predicate(ofPlaces, rules), () -> plain.predicate(ofPlaces, rules));
        if (plain.count(0) > predicates) {
            places[predicates] = ofPlaces;
            predicates++;
        }
    }

    private void addFact() {
        if (plain.count(2) < mostFacts) {
            atomCall("fact", desk::fact, plain::fact, this::constant);
        }
    }

    private void addRule() {
        if (plain.count(1) >= mostRules) {
            return;
        }
        atomCall("head", this::begin, this::beginPlain, this::term);
        int atoms = 1 + random.nextInt(3);
        for (int i = 0; i < atoms; i++) {
            atomCall("body", desk::body, plain::body, this::term);
        }
        compare("done", desk::done, plain::done);
    }

    private Boolean begin(int p, int x, int y) {
        desk.head(p, x, y);
        return true;
    }

    private Boolean beginPlain(int p, int x, int y) {
        plain.head(p, x, y);
        return true;
    }

    private void wildAtomCalls() {
        Supplier<Integer> wild = () -> random.nextInt(9) == 0 ? random.nextInt() : random.nextInt(22) - 2;
        atomCall("fact", desk::fact, plain::fact, wild);
        atomCall("drop", desk::drop, plain::drop, wild);
        atomCall("ask", desk::ask, plain::ask, wild);
        atomCall("holds", desk::holds, plain::holds, wild);
        atomCall("wanted", desk::wanted, plain::wanted, wild);
        atomCall("called", desk::called, plain::called, wild);
    }

    private int constant() {
        return random.nextInt(constants);
    }

    private int constantOrFree() {
        return random.nextInt(constants + 3) < 3 ? -1 : constant();
    }

    private int term() {
        return random.nextInt(6) == 0 ? constant() : 10 + random.nextInt(variables);
    }

    private interface AtomCall {
        Object on(int p, int x, int y);
    }

    private void atomCall(String name, AtomCall one, AtomCall other, Supplier<Integer> at) {
        int p = random.nextInt(40) == 0 ? random.nextInt(12) - 1 : random.nextInt(Math.max(predicates, 1));
        boolean hasOnePlace = p >= 0 && p < 10 && places[p] == 1;
        int x = at.get();
        int y = hasOnePlace && random.nextInt(40) > 0 ? -1 : at.get();
        compare(name + " " + p + " " + x + " " + y, () -> one.on(p, x, y), () -> other.on(p, x, y));
    }

    private void compare(String call, Supplier<Object> one, Supplier<Object> other) {
        calls++;
        checks.due(run + call, outcome(one), outcome(other));
    }

    private static Object outcome(Supplier<Object> call) {
        try {
            return call.get();
        } catch (RuntimeException e) {
            return e.getClass().getName();
        }
    }
}

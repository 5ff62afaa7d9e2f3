import java.util.ArrayList;
import java.util.Arrays;
import java.util.HashSet;
import java.util.List;
import java.util.Set;
import java.util.TreeSet;

/** The document's terms, read word by word without a thought for speed: what QuestionDesk is compared with. */
final class PlainDesk {
    /** An atom, a fact, a call or a pattern: a predicate with what is at its places. */
    record Atom(int p, int x, int y) {
        int at(int place) {
            return place == 0 ? x : y;
        }
    }

    record Rule(Atom head, List<Atom> body) {
    }

    private record Predicate(int places, boolean rules) {
    }

    private final List<Predicate> predicates = new ArrayList<>();
    private final Set<Atom> told = new HashSet<>();
    private final List<Rule> rules = new ArrayList<>();
    private Rule begun = null;

    private boolean asked = false;
    private int predicatesThen = 0;
    private Set<Atom> model = new HashSet<>();
    private Set<Atom> calls = new HashSet<>();
    private Set<Atom> patterns = new HashSet<>();
    private TreeSet<Integer> answers = new TreeSet<>();
    private int rewritten = 0;

    int predicate(int places, boolean ofRules) {
        check(places == 1 || places == 2);
        if (predicates.size() == 10) {
            return -1;
        }
        predicates.add(new Predicate(places, ofRules));
        return predicates.size() - 1;
    }

    boolean fact(int p, int x, int y) {
        check(isAtom(p, x, y, 0, 9) && !predicates.get(p).rules());
        return told.add(new Atom(p, x, y));
    }

    boolean drop(int p, int x, int y) {
        check(isAtom(p, x, y, 0, 9) && !predicates.get(p).rules());
        return told.remove(new Atom(p, x, y));
    }

    void head(int p, int x, int y) {
        check(isAtom(p, x, y, 0, 17) && predicates.get(p).rules());
        begun = new Rule(new Atom(p, x, y), new ArrayList<>());
    }

    int body(int p, int x, int y) {
        if (begun == null || begun.body().size() == 3) {
            throw new IllegalStateException();
        }
        check(isAtom(p, x, y, 0, 17));
        begun.body().add(new Atom(p, x, y));
        return begun.body().size();
    }

    int done() {
        if (begun == null) {
            throw new IllegalStateException();
        }
        Rule rule = begun;
        begun = null;
        for (int place = 0; place < 2; place++) {
            int term = rule.head().at(place);
            if (term >= 10 && rule.body().stream().noneMatch(a -> a.x() == term || a.y() == term)) {
                return -1;
            }
        }
        if (rule.body().isEmpty() || rules.size() == 30) {
            return -1;
        }
        rules.add(rule);
        return rules.size() - 1;
    }

    boolean take(int rule) {
        if (rule < 0 || rule >= rules.size()) {
            return false;
        }
        rules.remove(rule);
        return true;
    }

    int ask(int p, int x, int y) {
        check(isAtom(p, x, y, 0, 17));
        asked = true;
        predicatesThen = predicates.size();
        findModel();
        answers = new TreeSet<>();
        for (Atom fact : model) {
            if (match(new Atom(p, x, y), fact, none()) != null) {
                answers.add(fact.y() < 0 ? fact.x() : 10 * fact.x() + fact.y());
            }
        }
        calls = new HashSet<>();
        patterns = new HashSet<>();
        rewritten = 0;
        if (predicates.get(p).rules()) {
            findCalls(new Atom(p, x < 10 ? x : -1, y < 10 ? y : -1));
            findPatterns(new Atom(p, x < 10 ? 1 : 0, y >= 0 && y < 10 ? 1 : 0));
        }
        return answers.size();
    }

    int answer(int i) {
        return i < 0 || i >= answers.size() ? -1 : new ArrayList<>(answers).get(i);
    }

    boolean holds(int p, int x, int y) {
        check(isAtom(p, x, y, 0, 9));
        return model.contains(new Atom(p, x, y));
    }

    boolean wanted(int p, int x, int y) {
        check(isAtom(p, x, y, 0, 9));
        return isCalledFor(new Atom(p, x, y));
    }

    boolean called(int p, int x, int y) {
        check(isAtom(p, x, y, -1, 9));
        return calls.contains(new Atom(p, x, y));
    }

    int of(int p, int what) {
        if (!asked || p < 0 || p >= predicatesThen) {
            return -1;
        }
        return switch (what) {
            case 0 -> (int) model.stream().filter(a -> a.p() == p).count();
            case 1 -> (int) model.stream().filter(a -> a.p() == p && isCalledFor(a)).count();
            case 2 -> (int) calls.stream().filter(a -> a.p() == p).count();
            case 3 -> (int) patterns.stream().filter(a -> a.p() == p).count();
            default -> -1;
        };
    }

    int count(int what) {
        if (what > 2 && !asked) {
            return -1;
        }
        return switch (what) {
            case 0 -> predicates.size();
            case 1 -> rules.size();
            case 2 -> told.size();
            case 3 -> patterns.size();
            case 4 -> rewritten;
            case 5 -> calls.size();
            case 6 -> (int) model.stream().filter(this::isCalledFor).count();
            default -> -1;
        };
    }

    private static void check(boolean right) {
        if (!right) {
            throw new IllegalArgumentException();
        }
    }

    private boolean isAtom(int p, int x, int y, int low, int high) {
        if (p < 0 || p >= predicates.size() || x < low || x > high) {
            return false;
        }
        return predicates.get(p).places() == 1 ? y == -1 : y >= low && y <= high;
    }

    private boolean isCalledFor(Atom fact) {
        return model.contains(fact) && calls.stream().anyMatch(c -> c.p() == fact.p()
            && (c.x() < 0 || c.x() == fact.x()) && (c.y() < 0 || c.y() == fact.y()));
    }

    private void findModel() {
        model = new HashSet<>(told);
        boolean grows = true;
        while (grows) {
            Set<Atom> found = new HashSet<>();
            for (Rule rule : rules) {
                for (int[] way : ways(rule.body(), none())) {
                    found.add(put(rule.head(), way));
                }
            }
            grows = model.addAll(found);
        }
    }

    private void findCalls(Atom question) {
        List<Atom> open = new ArrayList<>();
        open.add(question);
        calls.add(question);
        while (!open.isEmpty()) {
            Atom call = open.remove(open.size() - 1);
            for (Rule rule : rules) {
                int[] start = rule.head().p() == call.p() ? boundBy(rule.head(), call) : null;
                if (start == null) {
                    continue;
                }
                for (int i = 0; i < rule.body().size(); i++) {
                    Atom atom = rule.body().get(i);
                    if (predicates.get(atom.p()).rules()) {
                        for (int[] way : ways(rule.body().subList(0, i), start)) {
                            Atom next = put(atom, way);
                            if (calls.add(next)) {
                                open.add(next);
                            }
                        }
                    }
                }
            }
        }
    }

    /** What the head's variables at the call's bound places are, or null when the head does not fit. */
    private static int[] boundBy(Atom head, Atom call) {
        int[] values = none();
        for (int place = 0; place < 2; place++) {
            if (call.at(place) >= 0) {
                values = bind(head.at(place), call.at(place), values);
                if (values == null) {
                    return null;
                }
            }
        }
        return values;
    }

    private void findPatterns(Atom first) {
        List<Atom> open = new ArrayList<>();
        open.add(first);
        patterns.add(first);
        while (!open.isEmpty()) {
            Atom pattern = open.remove(open.size() - 1);
            for (Rule rule : rules) {
                if (rule.head().p() != pattern.p()) {
                    continue;
                }
                rewritten++;
                Set<Integer> bound = new HashSet<>();
                for (int place = 0; place < 2; place++) {
                    if (pattern.at(place) == 1) {
                        bound.add(rule.head().at(place));
                    }
                }
                for (Atom atom : rule.body()) {
                    if (predicates.get(atom.p()).rules()) {
                        rewritten++;
                        Atom next = new Atom(atom.p(), isBound(atom.x(), bound), isBound(atom.y(), bound));
                        if (patterns.add(next)) {
                            open.add(next);
                        }
                    }
                    bound.add(atom.x());
                    bound.add(atom.y());
                }
            }
        }
    }

    private static int isBound(int term, Set<Integer> bound) {
        return term >= 0 && (term < 10 || bound.contains(term)) ? 1 : 0;
    }

    private List<int[]> ways(List<Atom> atoms, int[] start) {
        List<int[]> ways = new ArrayList<>();
        ways.add(start);
        for (Atom atom : atoms) {
            List<int[]> longer = new ArrayList<>();
            for (int[] way : ways) {
                for (Atom fact : model) {
                    int[] next = match(atom, fact, way);
                    if (next != null) {
                        longer.add(next);
                    }
                }
            }
            ways = longer;
        }
        return ways;
    }

    private static int[] match(Atom atom, Atom fact, int[] values) {
        if (atom.p() != fact.p()) {
            return null;
        }
        int[] first = bind(atom.x(), fact.x(), values);
        return first == null ? null : bind(atom.y(), fact.y(), first);
    }

    private static int[] bind(int term, int value, int[] values) {
        if (term < 10) {
            return term == value ? values : null;
        }
        int was = values[term - 10];
        if (was >= 0) {
            return was == value ? values : null;
        }
        int[] next = values.clone();
        next[term - 10] = value;
        return next;
    }

    private static int[] none() {
        int[] values = new int[8];
        Arrays.fill(values, -1);
        return values;
    }

    private static Atom put(Atom atom, int[] way) {
        return new Atom(atom.p(), put(atom.x(), way), put(atom.y(), way));
    }

    private static int put(int term, int[] way) {
        return term < 10 ? term : way[term - 10];
    }
}

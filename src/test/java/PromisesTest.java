/** Each promise of the document: ordinary inputs, the edges that it names, and wrong inputs. */
public final class PromisesTest {
    private static final int EDGE = 0;
    private static final int PATH = 1;
    private static final int MARK = 2;
    private static final int SEEN = 3;
    private static final int X = 10;
    private static final int Y = 11;
    private static final int Z = 12;
    private static final int LAST_VARIABLE = 17;
    private static final int[] WRONG_PREDICATES = {-1, 4, 10, Integer.MIN_VALUE, Integer.MAX_VALUE};

    private static final Checks checks = new Checks();

    public static void main(String[] args) {
        newObject();
        predicate();
        fact();
        drop();
        head();
        body();
        bodyStateBeforeArguments();
        done();
        doneRefuses();
        take();
        takeLeavesTheRuleThatHasBegun();
        ask();
        askThrowsAndChangesNothing();
        answer();
        holds();
        wanted();
        called();
        calledThroughConstants();
        calledBySameVariable();
        calledByWaysOfTheModel();
        calledOrderOfBody();
        of();
        count();
        patternsWithoutCalls();
        questionStays();
        questionOfFacts();
        checks.end("PromisesTest");
    }

    /** Edge and mark are of facts, path and seen of rules. */
    private static QuestionDesk desk() {
        QuestionDesk d = new QuestionDesk();
        d.predicate(2, false);
        d.predicate(2, true);
        d.predicate(1, false);
        d.predicate(1, true);
        return d;
    }

    /** A rule of numbers: the head's predicate and terms, then those of each atom of the body. */
    private static int rule(QuestionDesk d, int... atoms) {
        d.head(atoms[0], atoms[1], atoms[2]);
        for (int i = 3; i < atoms.length; i += 3) {
            d.body(atoms[i], atoms[i + 1], atoms[i + 2]);
        }
        return d.done();
    }

    private static QuestionDesk pathDesk() {
        QuestionDesk d = desk();
        rule(d, PATH, X, Y, EDGE, X, Y);
        rule(d, PATH, X, Z, EDGE, X, Y, PATH, Y, Z);
        d.fact(EDGE, 1, 2);
        d.fact(EDGE, 2, 3);
        d.fact(EDGE, 5, 6);
        return d;
    }

    private static void newObject() {
        QuestionDesk d = new QuestionDesk();
        checks.due("NONE", QuestionDesk.NONE, -1);
        for (int what = 0; what < 3; what++) {
            checks.due("new: count(" + what + ")", d.count(what), 0);
        }
        for (int what = 3; what < 7; what++) {
            checks.due("new: count(" + what + ")", d.count(what), -1);
        }
        checks.due("new: answer(0)", d.answer(0), -1);
        checks.due("new: of(0, 0)", d.of(0, 0), -1);
        checks.due("new: take(0)", d.take(0), false);
        checks.illegalArgument("new: fact", () -> d.fact(0, 0, 0));
        checks.illegalArgument("new: head", () -> d.head(0, 0, 0));
        checks.illegalArgument("new: ask", () -> d.ask(0, 0, 0));
        checks.illegalArgument("new: holds", () -> d.holds(0, 0, 0));
        checks.illegalArgument("new: wanted", () -> d.wanted(0, 0, 0));
        checks.illegalArgument("new: called", () -> d.called(0, 0, 0));
        checks.illegalState("new: body", () -> d.body(0, 0, 0));
        checks.illegalState("new: done", d::done);
    }

    private static void predicate() {
        QuestionDesk d = new QuestionDesk();
        for (int places : new int[] {0, 3, -1, Integer.MIN_VALUE, Integer.MAX_VALUE}) {
            checks.illegalArgument("predicate(" + places + ")", () -> d.predicate(places, false));
        }
        for (int p = 0; p < 10; p++) {
            checks.due("predicate " + p, d.predicate(1 + p % 2, p % 3 == 0), p);
        }
        checks.due("predicate, there are 10", d.predicate(1, true), -1);
        checks.illegalArgument("predicate(3), there are 10", () -> d.predicate(3, true));
        checks.due("count(0)", d.count(0), 10);
        checks.due("ask of predicate 9", d.ask(9, X, Y), 0);
    }

    private static void fact() {
        QuestionDesk d = desk();
        checks.due("fact", d.fact(EDGE, 0, 9), true);
        checks.due("fact again", d.fact(EDGE, 0, 9), false);
        checks.due("fact turned round", d.fact(EDGE, 9, 0), true);
        checks.due("fact of one place", d.fact(MARK, 9, -1), true);
        checks.due("fact of one place again", d.fact(MARK, 9, -1), false);
        checks.due("count(2)", d.count(2), 3);
        wrongConstants("fact", (p, x, y) -> d.fact(p, x, y), EDGE, MARK);
        checks.illegalArgument("fact of rules", () -> d.fact(PATH, 0, 0));
        checks.illegalArgument("fact of rules, one place", () -> d.fact(SEEN, 0, -1));
        checks.due("count(2) after throws", d.count(2), 3);
    }

    private static void drop() {
        QuestionDesk d = desk();
        d.fact(EDGE, 3, 4);
        d.fact(EDGE, 3, 5);
        d.fact(MARK, 3, -1);
        checks.due("drop of what was not told", d.drop(EDGE, 4, 3), false);
        checks.due("drop", d.drop(EDGE, 3, 4), true);
        checks.due("drop again", d.drop(EDGE, 3, 4), false);
        checks.due("drop of one place", d.drop(MARK, 3, -1), true);
        checks.due("drop of one place again", d.drop(MARK, 3, -1), false);
        checks.due("count(2) after drops", d.count(2), 1);
        checks.due("ask after drops", d.ask(EDGE, X, Y), 1);
        checks.due("answer after drops", d.answer(0), 35);
        checks.due("fact after drop", d.fact(EDGE, 3, 4), true);
        wrongConstants("drop", (p, x, y) -> d.drop(p, x, y), EDGE, MARK);
        checks.illegalArgument("drop of rules", () -> d.drop(PATH, 0, 0));
    }

    private static void head() {
        QuestionDesk d = desk();
        wrongTerms("head", (p, x, y) -> d.head(p, x, y), PATH, SEEN);
        checks.illegalArgument("head of facts", () -> d.head(EDGE, X, Y));
        checks.illegalArgument("head of facts, one place", () -> d.head(MARK, X, -1));
        checks.illegalState("body behind heads that threw", () -> d.body(EDGE, X, Y));
        d.head(PATH, LAST_VARIABLE, 9);
        d.body(EDGE, LAST_VARIABLE, 0);
        d.head(SEEN, X, -1);
        checks.due("body behind a second head", d.body(MARK, X, -1), 1);
        checks.illegalArgument("head that throws", () -> d.head(PATH, X, 18));
        checks.due("done keeps the rule behind a head that threw", d.done(), 0);
        d.fact(MARK, 4, -1);
        checks.due("the second head counts", d.ask(SEEN, X, -1), 1);
        checks.due("the first one is forgotten", d.of(PATH, 0), 0);
        d.head(PATH, LAST_VARIABLE, 9);
        d.body(EDGE, LAST_VARIABLE, 0);
        checks.due("done", d.done(), 1);
        d.fact(EDGE, 8, 0);
        checks.due("a head with variable and constant", d.ask(PATH, X, Y), 1);
        checks.due("its answer", d.answer(0), 89);
    }

    private static void body() {
        QuestionDesk d = desk();
        d.head(PATH, X, Y);
        wrongTerms("body", (p, x, y) -> d.body(p, x, y), PATH, SEEN);
        wrongTerms("body", (p, x, y) -> d.body(p, x, y), EDGE, MARK);
        checks.due("body 1", d.body(EDGE, X, LAST_VARIABLE), 1);
        checks.due("body 2", d.body(MARK, LAST_VARIABLE, -1), 2);
        checks.due("body 3", d.body(SEEN, Y, -1), 3);
        checks.illegalState("body 4", () -> d.body(EDGE, X, Y));
        checks.due("done", d.done(), 0);
        rule(d, SEEN, X, -1, EDGE, X, X);
        d.fact(EDGE, 1, 2);
        d.fact(EDGE, 4, 4);
        d.fact(MARK, 2, -1);
        checks.due("all three atoms count", d.ask(PATH, X, Y), 1);
        checks.due("answer", d.answer(0), 14);
    }

    private static void bodyStateBeforeArguments() {
        QuestionDesk d = desk();
        checks.illegalState("body of no predicate, none begun", () -> d.body(77, X, Y));
        d.head(PATH, 1, 2);
        d.body(EDGE, X, Y);
        d.body(EDGE, X, Y);
        d.body(EDGE, X, Y);
        checks.illegalState("body of no predicate, with three", () -> d.body(77, X, Y));
        checks.due("done", d.done(), 0);
        checks.illegalState("body behind done", () -> d.body(77, X, Y));
    }

    private static void done() {
        QuestionDesk d = desk();
        checks.due("rule 0", rule(d, PATH, X, Y, EDGE, X, Y), 0);
        checks.due("rule 1, the same", rule(d, PATH, X, Y, EDGE, X, Y), 1);
        checks.due("rule of constants", rule(d, SEEN, 4, -1, MARK, 5, -1), 2);
        checks.illegalState("done, none begun", d::done);
        checks.due("count(1)", d.count(1), 3);
        checks.due("constants do not follow", d.ask(SEEN, X, -1), 0);
        d.fact(MARK, 5, -1);
        checks.due("constants follow", d.ask(SEEN, X, -1), 1);
    }

    private static void doneRefuses() {
        QuestionDesk d = desk();
        d.head(PATH, 1, 2);
        checks.due("empty body", d.done(), -1);
        checks.illegalState("forgotten", d::done);
        checks.due("first variable not in body", rule(d, PATH, X, Y, EDGE, Y, Z), -1);
        checks.illegalState("forgotten", () -> d.body(EDGE, X, Y));
        checks.due("second variable not in body", rule(d, PATH, X, Y, EDGE, X, Z), -1);
        checks.due("variable in the third atom", rule(d, PATH, X, Y, EDGE, X, X, MARK, 1, -1, EDGE, 1, Y), 0);
        for (int r = 1; r < 30; r++) {
            checks.due("rule " + r, rule(d, SEEN, X, -1, MARK, X, -1), r);
        }
        checks.due("rule 30", rule(d, SEEN, X, -1, MARK, X, -1), -1);
        checks.illegalState("forgotten", d::done);
        checks.due("count(1)", d.count(1), 30);
        checks.due("take", d.take(29), true);
        checks.due("rule 29 anew", rule(d, SEEN, X, -1, MARK, X, -1), 29);
    }

    private static void take() {
        QuestionDesk d = desk();
        rule(d, SEEN, 0, -1, MARK, 0, -1);
        rule(d, SEEN, 1, -1, MARK, 0, -1);
        rule(d, SEEN, 2, -1, MARK, 0, -1);
        d.fact(MARK, 0, -1);
        for (int r : new int[] {-1, 3, 30, Integer.MIN_VALUE, Integer.MAX_VALUE}) {
            checks.due("take(" + r + ")", d.take(r), false);
        }
        checks.due("ask", d.ask(SEEN, X, -1), 3);
        checks.due("take(0)", d.take(0), true);
        checks.due("ask without rule 0", d.ask(SEEN, X, -1), 2);
        checks.due("answer", d.answer(0), 1);
        checks.due("take(1), which was 2", d.take(1), true);
        checks.due("take(1) again", d.take(1), false);
        checks.due("ask without rule 2", d.ask(SEEN, X, -1), 1);
        checks.due("answer", d.answer(0), 1);
        checks.due("a new rule's number", rule(d, SEEN, 9, -1, MARK, 0, -1), 1);
    }

    private static void takeLeavesTheRuleThatHasBegun() {
        QuestionDesk d = desk();
        rule(d, SEEN, 0, -1, MARK, 0, -1);
        d.head(SEEN, X, -1);
        d.body(MARK, X, -1);
        checks.due("count(1) does not have one that has begun", d.count(1), 1);
        checks.due("take(1) of one that has begun", d.take(1), false);
        checks.due("take(0)", d.take(0), true);
        checks.due("done", d.done(), 0);
    }

    private static void ask() {
        QuestionDesk d = pathDesk();
        checks.due("ask(path, X, Y)", d.ask(PATH, X, Y), 4);
        checks.due("ask(path, 1, Y)", d.ask(PATH, 1, Y), 2);
        checks.due("ask(path, X, 3)", d.ask(PATH, X, 3), 2);
        checks.due("ask(path, 1, 3)", d.ask(PATH, 1, 3), 1);
        checks.due("ask(path, 3, 1)", d.ask(PATH, 3, 1), 0);
        checks.due("ask(path, X, X)", d.ask(PATH, X, X), 0);
        d.fact(EDGE, 3, 1);
        checks.due("ask(path, X, X) on a ring", d.ask(PATH, X, X), 3);
        checks.due("ask(path, last, last)", d.ask(PATH, LAST_VARIABLE, LAST_VARIABLE), 3);
        checks.due("ask(path, last, first)", d.ask(PATH, LAST_VARIABLE, X), 10);
        checks.due("ask(edge, X, X)", d.ask(EDGE, X, X), 0);
        checks.due("ask(edge, X, Y)", d.ask(EDGE, X, Y), 4);
        d.fact(MARK, 7, -1);
        checks.due("ask(mark, X)", d.ask(MARK, X, -1), 1);
        checks.due("ask(mark, 7)", d.ask(MARK, 7, -1), 1);
        checks.due("ask(mark, 6)", d.ask(MARK, 6, -1), 0);
    }

    private static void askThrowsAndChangesNothing() {
        QuestionDesk d = pathDesk();
        wrongTerms("ask", (p, x, y) -> d.ask(p, x, y), EDGE, MARK);
        wrongTerms("ask", (p, x, y) -> d.ask(p, x, y), PATH, SEEN);
        checks.due("count(5), nothing asked yet", d.count(5), -1);
        d.ask(PATH, 1, Y);
        d.drop(EDGE, 1, 2);
        checks.illegalArgument("ask", () -> d.ask(PATH, 18, 2));
        checks.due("answer of the question before", d.answer(1), 13);
        checks.due("count(5) of the question before", d.count(5), 3);
    }

    private static void answer() {
        QuestionDesk d = desk();
        checks.due("answer, nothing asked", d.answer(0), -1);
        int[][] edges = {{9, 9}, {0, 0}, {2, 1}, {1, 2}, {0, 9}, {2, 0}};
        for (int[] edge : edges) {
            d.fact(EDGE, edge[0], edge[1]);
        }
        d.fact(MARK, 8, -1);
        d.fact(MARK, 0, -1);
        d.ask(EDGE, X, Y);
        int[] sorted = {0, 9, 12, 20, 21, 99};
        for (int i = 0; i < sorted.length; i++) {
            checks.due("answer(" + i + ")", d.answer(i), sorted[i]);
        }
        for (int i : new int[] {-1, 6, 100, Integer.MIN_VALUE, Integer.MAX_VALUE}) {
            checks.due("answer(" + i + ")", d.answer(i), -1);
        }
        d.ask(EDGE, X, X);
        checks.due("answer(1) of the same variable", d.answer(1), 99);
        d.ask(MARK, X, -1);
        checks.due("answer(0) of one place", d.answer(0), 0);
        checks.due("answer(1) of one place", d.answer(1), 8);
        checks.due("answer(2) of one place", d.answer(2), -1);
    }

    private static void holds() {
        QuestionDesk d = pathDesk();
        checks.due("holds, nothing asked", d.holds(EDGE, 1, 2), false);
        wrongConstants("holds, nothing asked", (p, x, y) -> d.holds(p, x, y), EDGE, MARK);
        d.ask(PATH, 5, Y);
        checks.due("holds, told", d.holds(EDGE, 1, 2), true);
        checks.due("holds, followed without a call", d.holds(PATH, 1, 3), true);
        checks.due("holds, not followed", d.holds(PATH, 3, 1), false);
        checks.due("holds of one place", d.holds(SEEN, 3, -1), false);
        wrongConstants("holds", (p, x, y) -> d.holds(p, x, y), EDGE, MARK);
        wrongConstants("holds", (p, x, y) -> d.holds(p, x, y), PATH, SEEN);
        int late = d.predicate(1, true);
        checks.due("holds of a predicate behind the question", d.holds(late, 0, -1), false);
    }

    private static void wanted() {
        QuestionDesk d = pathDesk();
        checks.due("wanted, nothing asked", d.wanted(PATH, 1, 2), false);
        wrongConstants("wanted, nothing asked", (p, x, y) -> d.wanted(p, x, y), EDGE, MARK);
        d.ask(PATH, 1, Y);
        checks.due("wanted", d.wanted(PATH, 2, 3), true);
        checks.due("wanted, in the model without a call", d.wanted(PATH, 5, 6), false);
        checks.due("wanted, called but not in the model", d.wanted(PATH, 3, 1), false);
        checks.due("wanted of facts", d.wanted(EDGE, 1, 2), false);
        d.ask(PATH, X, 3);
        checks.due("wanted by the second place", d.wanted(PATH, 2, 3), true);
        checks.due("not wanted by the second place", d.wanted(PATH, 1, 2), false);
        d.ask(PATH, X, X);
        checks.due("wanted by a call that is free", d.wanted(PATH, 5, 6), true);
        wrongConstants("wanted", (p, x, y) -> d.wanted(p, x, y), PATH, SEEN);
        rule(d, SEEN, X, -1, EDGE, X, Y);
        d.ask(SEEN, 1, -1);
        checks.due("wanted of one place", d.wanted(SEEN, 1, -1), true);
        checks.due("not wanted of one place", d.wanted(SEEN, 2, -1), false);
        d.ask(SEEN, X, -1);
        checks.due("wanted of one place, free", d.wanted(SEEN, 2, -1), true);
    }

    private static void called() {
        QuestionDesk d = pathDesk();
        checks.due("called, nothing asked", d.called(PATH, -1, -1), false);
        wrongCalls(d);
        d.ask(PATH, 1, Y);
        checks.due("called, the question", d.called(PATH, 1, -1), true);
        checks.due("called by a rule", d.called(PATH, 2, -1), true);
        checks.due("called where no fact is", d.called(PATH, 3, -1), true);
        checks.due("not called", d.called(PATH, 5, -1), false);
        checks.due("not called with both", d.called(PATH, 1, 2), false);
        checks.due("not called free", d.called(PATH, -1, -1), false);
        checks.due("called of facts", d.called(EDGE, 1, -1), false);
        checks.due("count(5)", d.count(5), 3);
        d.ask(PATH, X, 3);
        checks.due("called, the first place free", d.called(PATH, -1, 3), true);
        checks.due("called with both bound", d.called(PATH, 6, 3), true);
        checks.due("called with no edge to it", d.called(PATH, 1, 3), false);
        rule(d, SEEN, X, -1, MARK, X, -1, SEEN, 4, -1);
        d.fact(MARK, 8, -1);
        d.ask(SEEN, X, -1);
        checks.due("called of one place, free", d.called(SEEN, -1, -1), true);
        checks.due("called of one place, a constant", d.called(SEEN, 4, -1), true);
        checks.due("not called of one place", d.called(SEEN, 8, -1), false);
        checks.due("called of two places behind", d.called(PATH, -1, 3), false);
        wrongCalls(d);
    }

    private static void wrongCalls(QuestionDesk d) {
        for (int p : WRONG_PREDICATES) {
            checks.illegalArgument("called(" + p + ")", () -> d.called(p, 0, -1));
        }
        for (int p : new int[] {EDGE, PATH}) {
            checks.illegalArgument("called, x 10", () -> d.called(p, 10, 0));
            checks.illegalArgument("called, x -2", () -> d.called(p, -2, 0));
            checks.illegalArgument("called, y 10", () -> d.called(p, 0, 10));
            checks.illegalArgument("called, y -2", () -> d.called(p, 0, -2));
            checks.illegalArgument("called, y great", () -> d.called(p, 0, Integer.MAX_VALUE));
        }
        for (int p : new int[] {MARK, SEEN}) {
            checks.illegalArgument("called of one place, y 0", () -> d.called(p, 0, 0));
            checks.illegalArgument("called of one place, x 10", () -> d.called(p, 10, -1));
            checks.illegalArgument("called of one place, x small", () -> d.called(p, Integer.MIN_VALUE, -1));
        }
    }

    private static void calledThroughConstants() {
        QuestionDesk d = desk();
        rule(d, PATH, 3, X, SEEN, X, -1);
        rule(d, PATH, 4, X, MARK, X, -1, PATH, 3, X);
        rule(d, SEEN, X, -1, MARK, X, -1);
        d.fact(MARK, 6, -1);
        checks.due("ask", d.ask(PATH, 4, Y), 1);
        checks.due("the head's constant agrees", d.called(PATH, 3, 6), true);
        checks.due("the head's constant at a bound place disagrees", d.called(SEEN, -1, -1), false);
        checks.due("the called one goes on", d.called(SEEN, 6, -1), true);
        d.ask(PATH, X, 6);
        checks.due("the head's constant at a free place", d.called(SEEN, 6, -1), true);
        d.ask(PATH, 5, 6);
        checks.due("no head agrees", d.count(5), 1);
    }

    private static void calledBySameVariable() {
        QuestionDesk d = desk();
        rule(d, PATH, X, X, SEEN, X, -1);
        rule(d, SEEN, X, -1, PATH, Y, Y, MARK, X, -1);
        d.ask(PATH, 2, 3);
        checks.due("a variable at both bound places, not the same", d.count(5), 1);
        d.ask(PATH, 2, 2);
        checks.due("the same", d.called(SEEN, 2, -1), true);
        checks.due("a variable twice in an atom is free twice", d.called(PATH, -1, -1), true);
        checks.due("and what that calls", d.called(SEEN, -1, -1), true);
        d.ask(PATH, X, 2);
        checks.due("one of both places bound", d.called(SEEN, 2, -1), true);
        d.ask(PATH, X, X);
        checks.due("the question's variables bind nothing", d.called(PATH, -1, -1), true);
        checks.due("count(5)", d.count(5), 2);
    }

    private static void calledByWaysOfTheModel() {
        QuestionDesk d = desk();
        rule(d, PATH, X, Z, EDGE, X, Y, PATH, Y, Y, SEEN, Z, -1);
        rule(d, PATH, 7, 7, MARK, 0, -1);
        rule(d, SEEN, X, -1, MARK, X, -1);
        d.fact(EDGE, 1, 7);
        d.fact(EDGE, 1, 8);
        d.ask(PATH, 1, 9);
        checks.due("called", d.called(PATH, 8, 8), true);
        checks.due("no way to the third atom", d.called(SEEN, 9, -1), false);
        d.fact(MARK, 0, -1);
        d.ask(PATH, 1, 9);
        checks.due("a way to the third atom", d.called(SEEN, 9, -1), true);
        d.ask(PATH, 1, Y);
        checks.due("the third atom is free", d.called(SEEN, -1, -1), true);
        checks.due("and not bound", d.called(SEEN, 9, -1), false);
        checks.due("answers", d.ask(PATH, 1, Y), 1);
        checks.due("answer", d.answer(0), 10);
    }

    private static void calledOrderOfBody() {
        QuestionDesk d = desk();
        rule(d, PATH, X, Y, EDGE, X, Y);
        rule(d, PATH, X, Z, PATH, Y, Z, EDGE, X, Y);
        d.fact(EDGE, 1, 2);
        d.fact(EDGE, 2, 3);
        d.ask(PATH, 1, Y);
        checks.due("an atom in front has nothing bound", d.called(PATH, -1, -1), true);
        checks.due("count(5)", d.count(5), 2);
        checks.due("count(3)", d.count(3), 2);
        checks.due("count(6)", d.count(6), 3);
    }

    private static void of() {
        QuestionDesk d = pathDesk();
        checks.due("of, nothing asked", d.of(PATH, 0), -1);
        d.ask(PATH, X, 3);
        int[][] due = {{3, 0, 0, 0}, {4, 2, 4, 2}, {0, 0, 0, 0}, {0, 0, 0, 0}};
        for (int p = 0; p < due.length; p++) {
            for (int what = 0; what < 4; what++) {
                checks.due("of(" + p + ", " + what + ")", d.of(p, what), due[p][what]);
            }
        }
        for (int what : new int[] {-1, 4, Integer.MIN_VALUE, Integer.MAX_VALUE}) {
            checks.due("of(path, " + what + ")", d.of(PATH, what), -1);
        }
        for (int p : WRONG_PREDICATES) {
            checks.due("of(" + p + ", 0)", d.of(p, 0), -1);
        }
        int late = d.predicate(1, true);
        checks.due("of a predicate behind the question", d.of(late, 0), -1);
        d.ask(PATH, X, 3);
        checks.due("of it, asked again", d.of(late, 0), 0);
    }

    private static void count() {
        QuestionDesk d = pathDesk();
        checks.due("count(3), nothing asked", d.count(3), -1);
        d.ask(PATH, X, 3);
        int[] due = {4, 2, 3, 2, 6, 4, 2};
        for (int what = 0; what < due.length; what++) {
            checks.due("count(" + what + ")", d.count(what), due[what]);
        }
        for (int what : new int[] {-1, 7, Integer.MIN_VALUE, Integer.MAX_VALUE}) {
            checks.due("count(" + what + ")", d.count(what), -1);
        }
        rule(d, SEEN, X, -1, PATH, X, Y);
        d.ask(SEEN, X, -1);
        checks.due("calls of two predicates", d.count(5), 5);
        checks.due("facts called for of two predicates", d.count(6), 7);
        checks.due("patterns of two predicates", d.count(3), 3);
        checks.due("rewritten rules of two predicates", d.count(4), 8);
    }

    private static void patternsWithoutCalls() {
        QuestionDesk d = desk();
        rule(d, PATH, 4, X, MARK, X, -1, SEEN, X, -1);
        rule(d, SEEN, X, -1, MARK, X, -1);
        d.ask(PATH, 5, Y);
        checks.due("calls", d.count(5), 1);
        checks.due("patterns, whatever the constants are", d.count(3), 2);
        checks.due("of(seen, 3)", d.of(SEEN, 3), 1);
        checks.due("of(seen, 2)", d.of(SEEN, 2), 0);
        checks.due("rewritten rules", d.count(4), 3);
    }

    private static void questionStays() {
        QuestionDesk d = pathDesk();
        d.ask(PATH, 1, Y);
        int[] before = ofQuestion(d);
        d.fact(EDGE, 3, 5);
        d.drop(EDGE, 1, 2);
        d.predicate(2, true);
        rule(d, SEEN, X, -1, EDGE, X, Y);
        d.take(1);
        d.head(PATH, X, Y);
        int[] after = ofQuestion(d);
        for (int i = 0; i < before.length; i++) {
            checks.due("value " + i + " of the question before changes", after[i], before[i]);
        }
        checks.due("count(0)", d.count(0), 5);
        checks.due("count(1)", d.count(1), 2);
        checks.due("count(2)", d.count(2), 3);
    }

    private static int[] ofQuestion(QuestionDesk d) {
        return new int[] {
            d.answer(0), d.answer(1), d.answer(2), d.count(3), d.count(4), d.count(5), d.count(6),
            d.of(EDGE, 0), d.of(PATH, 0), d.of(PATH, 1), d.of(PATH, 2), d.of(PATH, 3), d.of(4, 0),
            d.holds(EDGE, 1, 2) ? 1 : 0, d.holds(EDGE, 3, 5) ? 1 : 0, d.holds(PATH, 1, 3) ? 1 : 0,
            d.wanted(PATH, 2, 3) ? 1 : 0, d.called(PATH, 2, -1) ? 1 : 0, d.called(PATH, 5, -1) ? 1 : 0};
    }

    private static void questionOfFacts() {
        QuestionDesk d = pathDesk();
        d.ask(PATH, 1, Y);
        checks.due("ask of facts", d.ask(EDGE, X, 3), 1);
        checks.due("answer of facts", d.answer(0), 23);
        for (int what = 3; what < 7; what++) {
            checks.due("of facts: count(" + what + ")", d.count(what), 0);
        }
        checks.due("of facts: called", d.called(EDGE, -1, 3), false);
        checks.due("of facts: no call is left", d.called(PATH, 1, -1), false);
        checks.due("of facts: the model is there", d.of(PATH, 0), 4);
        checks.due("of facts: nothing is called for", d.of(PATH, 1), 0);
        checks.due("of facts: no patterns", d.of(PATH, 3), 0);
        checks.due("of facts: holds", d.holds(PATH, 1, 3), true);
    }

    private interface AtomCall {
        void on(int p, int x, int y);
    }

    private static void wrongConstants(String call, AtomCall on, int ofTwo, int ofOne) {
        wrongAtoms(call, on, ofTwo, ofOne, 10);
    }

    private static void wrongTerms(String call, AtomCall on, int ofTwo, int ofOne) {
        wrongAtoms(call, on, ofTwo, ofOne, 18);
    }

    private static void wrongAtoms(String call, AtomCall on, int ofTwo, int ofOne, int tooGreat) {
        for (int p : WRONG_PREDICATES) {
            checks.illegalArgument(call + "(" + p + ", 0, 0)", () -> on.on(p, 0, 0));
            checks.illegalArgument(call + "(" + p + ", 0, -1)", () -> on.on(p, 0, -1));
        }
        for (int wrong : new int[] {-1, -2, tooGreat, Integer.MIN_VALUE, Integer.MAX_VALUE}) {
            checks.illegalArgument(call + " with x " + wrong, () -> on.on(ofTwo, wrong, 0));
            checks.illegalArgument(call + " with y " + wrong, () -> on.on(ofTwo, 0, wrong));
            checks.illegalArgument(call + " of one place with x " + wrong, () -> on.on(ofOne, wrong, -1));
        }
        for (int wrong : new int[] {-2, 0, 9, tooGreat - 1, tooGreat, Integer.MIN_VALUE, Integer.MAX_VALUE}) {
            checks.illegalArgument(call + " of one place with y " + wrong, () -> on.on(ofOne, 0, wrong));
        }
    }
}

import java.util.ArrayList;
import java.util.List;
import java.util.function.Consumer;

/** The sentences of the document's "What it is" and "Terms". */
public final class TermsTest extends Sentences {
    private static final int MOST_CALLS = 512;

    public static void main(String[] args) {
        TermsTest t = new TermsTest();
        t.whatItIs();
        t.predicatesAndTerms();
        t.rulesAndModel();
        t.calls();
        t.throwsAndLaterCalls();
        t.rewriting();
        t.endOfSection();
        t.end("TermsTest");
    }

    private void whatItIs() {
        in("What it is");
        of("A desk for questions to rules: what follows of facts by rules is found out for one question alone, by rules"
            + " that are rewritten so that nothing is worked out which no call asks for; calls, facts and rules are told,"
            + " and what would follow of all.", this::oneQuestionAlone);
        of("An object is used for at most 512 calls after it has been made; what later calls answer is free.",
            this::all512Calls);
    }

    private void predicatesAndTerms() {
        in("Terms");
        of("CONSTANTS are 0 .. 9.", this::constants);
        of("PREDICATES 0, 1, .. (at most 10)", this::tenPredicates);
        of("have one place or two,", this::onePlaceOrTwo);
        of("and are either of FACTS (told) or of RULES.", this::factsOrRules);
        of("A TERM is a constant, or 10 + v, VARIABLE v, 0 .. 7;", this::terms);
        of("of a predicate of one place the second term is -1.", this::secondTermOfOnePlace);
        of("An ATOM is a predicate with its terms.", this::atoms);
    }

    private void rulesAndModel() {
        of("A RULE (at most 30)", this::thirtyRules);
        of("has a HEAD, an atom of a predicate of rules,", this::headsPredicate);
        of("and a BODY, 1 .. 3 atoms;", this::oneToThreeAtoms);
        of("each variable of the head is in the body.", this::headsVariables);
        of("THE MODEL is the least set of facts (atoms without variables)", this::leastModel);
        of("that has all that are told,", this::modelHasWhatIsTold);
        of("and, of each rule with its variables replaced by constants in any one way, the head, if it has all of the body.",
            this::modelHasHeads);
        of("A question is an atom; each variable stands for any constant, the same for the same.", this::questions);
        of("Its ANSWERS are the facts of the model that it becomes so.", this::answers);
    }

    private void calls() {
        of("CALLS are of a predicate of rules, each of its places a constant (BOUND) or FREE.", this::callsPlaces);
        of("The question, of such a predicate, is the first call, its places with constants bound.", this::firstCall);
        of("Of a call and a rule for its predicate: if the head has constants at bound places they must be those;",
            this::headsConstants);
        of("the head's variables at bound places are the constants there", this::headsVariablesAtBoundPlaces);
        of("(where one stands at both, they must be the same).", this::headsVariableAtBothPlaces);
        of("Then of each way in which the atoms of the body before one become facts of the model so,", this::ways);
        of("that one (of a predicate of rules) is called:", this::atomsOfRulesAreCalled);
        of("bound is a place with a constant,", this::boundConstant);
        of("or a variable that is at a bound place of the head", this::boundByHead);
        of("or in an atom before it;", this::boundByAtomBefore);
        of("others are free.", this::othersAreFree);
        of("A fact is CALLED FOR if it is in the model and has a call's constants at its bound places,", this::calledFor);
        of("for a call of its predicate.", this::calledForByItsPredicate);
        of("A question of a predicate of facts has no calls,", this::questionOfFactsHasNoCalls);
        of("no patterns,", this::questionOfFactsHasNoPatterns);
        of("no rewritten rules.", this::questionOfFactsHasNoRewrittenRules);
    }

    private void throwsAndLaterCalls() {
        of("A call that throws changes nothing;", this::throwingChangesNothing);
        of("what is told", this::toldBehindAQuestion);
        of("or taken away behind a question changes nothing of what is answered about it.", this::takenBehindAQuestion);
    }

    private void rewriting() {
        of("REWRITING: PATTERNS are a predicate of rules with which places are bound;", this::patterns);
        of("the question's is the first one;", this::firstPattern);
        of("of a pattern and a rule for its predicate each atom of a predicate of rules gives a pattern, bound as calls are.",
            this::patternsOfAtoms);
        of("The rewritten program has for each pattern and rule of its predicate one rule,", this::rewrittenRules);
        of("and one for each atom of a predicate of rules in its body.", this::rewrittenRulesOfAtoms);
    }

    private void oneQuestionAlone() {
        QuestionDesk d = pathDesk();
        due("ask", d.ask(PATH, 5, Y), 1);
        due("what no call asks for", d.wanted(PATH, 1, 3), false);
        due("what would follow of all", d.holds(PATH, 1, 3), true);
        due("calls", d.called(PATH, 6, FREE), true);
        due("facts", d.wanted(PATH, 5, 6), true);
        due("rules", d.count(4), 3);
    }

    /** The desk is as full as it gets, so that no call before the last may make it run out of anything. */
    private void all512Calls() {
        QuestionDesk d = desk();
        int calls = PREDICATES;
        for (int p = PREDICATES; p < 10; p++, calls++) {
            d.predicate(2, true);
        }
        for (int edge = 0; edge < 100; edge++, calls++) {
            edges(d, edge);
        }
        for (int r = 0; r < 30; r++, calls += 5) {
            int next = PREDICATES + (r + 1) % 6;
            rule(d, PREDICATES + r % 6, X, Y, EDGE, X, Z, r == 0 ? EDGE : next, Z, Y, EDGE, Y, Z);
        }
        for (; calls < MOST_CALLS - 1; calls++) {
            due("call " + (calls + 1), d.ask(PREDICATES + calls % 6, X, Y), 100);
        }
        due("call " + MOST_CALLS, d.ask(PREDICATES, X, X), 10);
        laterCalls(d);
    }

    /** What these answer is free, but the machine itself throws in none. */
    private void laterCalls(QuestionDesk d) {
        for (int at : new int[] {LEAST, -2, -1, 0, 9, 10, 17, 18, 30, GREATEST}) {
            AtomCall[] calls = {d::fact, d::drop, d::head, d::body, d::ask, d::holds, d::wanted, d::called};
            for (AtomCall call : calls) {
                throwsItsOwn(() -> call.on(0, at, 0));
                throwsItsOwn(() -> call.on(PATH, 0, at));
                throwsItsOwn(() -> call.on(at, at, at));
            }
            throwsItsOwn(() -> d.predicate(at, true));
            throwsItsOwn(d::done);
            throwsItsOwn(() -> d.take(at));
            throwsItsOwn(() -> d.answer(at));
            throwsItsOwn(() -> d.of(at, 0));
            throwsItsOwn(() -> d.count(at));
        }
    }

    private void throwsItsOwn(Runnable call) {
        List<String> own = List.of("nothing", IllegalArgumentException.class.getName(),
            IllegalStateException.class.getName());
        due("a later call throws by itself", own.contains(thrownBy(call)), true);
    }

    private void constants() {
        QuestionDesk d = desk();
        for (int c = 0; c <= LAST_CONSTANT; c++) {
            due("fact(mark, " + c + ")", d.fact(MARK, c, -1), true);
            due("fact(edge, " + c + ", 0)", d.fact(EDGE, c, 0), true);
            due("fact(edge, 0, " + c + ")", d.fact(EDGE, 0, c), c > 0);
        }
        due("a variable stands for all of them", d.ask(MARK, X, -1), 10);
        due("the first", d.answer(0), 0);
        due("the last", d.answer(9), 9);
        beyondOfTwo("fact", d::fact, EDGE, 0, LAST_CONSTANT);
        beyondOfOne("fact", d::fact, MARK, 0, LAST_CONSTANT);
        beyondOfTwo("holds", d::holds, EDGE, 0, LAST_CONSTANT);
    }

    private void tenPredicates() {
        QuestionDesk d = new QuestionDesk();
        for (int p = 0; p < 10; p++) {
            due("predicate", d.predicate(2, false), p);
            due("fact of it", d.fact(p, 1, 2), true);
        }
        due("one too many", d.predicate(2, false), -1);
        illegalArgument("fact of one too many", () -> d.fact(10, 1, 2));
        due("count(0)", d.count(0), 10);
        due("count(2)", d.count(2), 10);
        firstAndLastPredicate();
    }

    private void firstAndLastPredicate() {
        QuestionDesk d = new QuestionDesk();
        for (int p = 0; p < 10; p++) {
            d.predicate(p == 9 ? 1 : 2, p == 0 || p == 9);
        }
        rule(d, 0, X, Y, 8, X, Y);
        rule(d, 9, X, -1, 0, X, Y);
        d.fact(8, 1, 2);
        d.fact(8, 1, 3);
        due("ask of the last, over the first", d.ask(9, X, -1), 1);
        due("facts called for of the first", d.of(0, 1), 2);
        int[] ofLast = {2, 3, 2, 3};
        for (int what = 3; what < 7; what++) {
            due("count(" + what + ")", d.count(what), ofLast[what - 3]);
        }
        due("ask of facts behind it", d.ask(8, X, Y), 2);
        due("no call of the first is left", d.called(0, FREE, FREE), false);
        for (int what = 3; what < 7; what++) {
            due("count(" + what + ") of facts", d.count(what), 0);
        }
    }

    private void onePlaceOrTwo() {
        QuestionDesk d = new QuestionDesk();
        illegalArgument("no place", () -> d.predicate(0, false));
        int one = d.predicate(1, false);
        int two = d.predicate(2, false);
        illegalArgument("three places", () -> d.predicate(3, false));
        due("fact of one", d.fact(one, 1, -1), true);
        illegalArgument("fact of one with two", () -> d.fact(one, 1, 2));
        due("fact of two", d.fact(two, 1, 2), true);
        illegalArgument("fact of two with one", () -> d.fact(two, 1, -1));
    }

    private void factsOrRules() {
        QuestionDesk d = desk();
        due("a fact of facts", d.fact(EDGE, 1, 2), true);
        illegalArgument("a fact of rules", () -> d.fact(PATH, 1, 2));
        illegalArgument("a fact of rules, one place", () -> d.fact(SEEN, 1, -1));
        due("a head of rules", rule(d, PATH, X, Y, EDGE, X, Y), 0);
        illegalArgument("a head of facts", () -> d.head(EDGE, X, Y));
        illegalArgument("a head of facts, one place", () -> d.head(MARK, X, -1));
    }

    private void terms() {
        QuestionDesk d = desk();
        edges(d, 0, 1, 99);
        for (int v = X; v <= LAST_VARIABLE; v++) {
            for (int w = X; w <= LAST_VARIABLE; w++) {
                due("ask(edge, " + v + ", " + w + ")", d.ask(EDGE, v, w), v == w ? 2 : 3);
            }
        }
        due("the lowest constant is no variable", d.ask(EDGE, 0, 0), 1);
        due("nor is the highest", d.ask(EDGE, 9, Y), 1);
        beyondOfTwo("ask", d::ask, EDGE, 0, LAST_VARIABLE);
        beyondOfOne("ask", d::ask, MARK, 0, LAST_VARIABLE);
        beyondOfTwo("head", d::head, PATH, 0, LAST_VARIABLE);
        beyondOfOne("head", d::head, SEEN, 0, LAST_VARIABLE);
    }

    private void secondTermOfOnePlace() {
        QuestionDesk d = desk();
        secondOfOne("fact", d::fact, MARK);
        secondOfOne("drop", d::drop, MARK);
        secondOfOne("head", d::head, SEEN);
        secondOfOne("body", (p, x, y) -> bodyOfANewRule(d, p, x, y), MARK);
        secondOfOne("ask", d::ask, MARK);
        secondOfOne("ask", d::ask, SEEN);
        secondOfOne("holds", d::holds, SEEN);
        secondOfOne("wanted", d::wanted, SEEN);
        secondOfOne("called", d::called, SEEN);
    }

    private static void bodyOfANewRule(QuestionDesk d, int p, int x, int y) {
        d.head(PATH, 1, 2);
        d.body(p, x, y);
    }

    private void atoms() {
        QuestionDesk d = desk();
        int link = d.predicate(2, false);
        edges(d, 12);
        due("the same terms of another predicate", d.ask(link, 1, 2), 0);
        due("other terms of the same predicate", d.ask(EDGE, 2, 1), 0);
        due("the same", d.ask(EDGE, 1, 2), 1);
        due("a fact of the same terms is another one", d.fact(link, 1, 2), true);
        due("count(2)", d.count(2), 2);
    }

    private void thirtyRules() {
        QuestionDesk d = desk();
        marks(d, 0);
        for (int r = 0; r < 30; r++) {
            due("rule " + r, rule(d, PATH, r % 10, r / 10, MARK, 0, -1), r);
        }
        due("one too many", rule(d, PATH, 9, 9, MARK, 0, -1), -1);
        due("count(1)", d.count(1), 30);
        due("what follows of all of them", d.ask(PATH, X, Y), 30);
        due("what follows of one too many", d.holds(PATH, 9, 9), false);
        due("rewritten rules", d.count(4), 30);
    }

    private void headsPredicate() {
        QuestionDesk d = desk();
        illegalArgument("head of facts", () -> d.head(EDGE, 1, 2));
        illegalArgument("head of facts, one place", () -> d.head(MARK, 1, -1));
        due("head of rules", rule(d, PATH, 1, 2, MARK, 3, -1), 0);
        due("head of rules, one place", rule(d, SEEN, 1, -1, MARK, 3, -1), 1);
    }

    private void oneToThreeAtoms() {
        QuestionDesk d = desk();
        due("no atom", rule(d, SEEN, 1, -1), -1);
        due("one atom", rule(d, SEEN, 1, -1, MARK, 1, -1), 0);
        due("two atoms", rule(d, SEEN, 2, -1, MARK, 1, -1, MARK, 2, -1), 1);
        due("three atoms", rule(d, SEEN, 3, -1, MARK, 1, -1, MARK, 2, -1, MARK, 3, -1), 2);
        illegalState("four atoms", () -> rule(d, SEEN, 4, -1, MARK, 1, -1, MARK, 2, -1, MARK, 3, -1, MARK, 4, -1));
        marks(d, 1);
        due("with one", d.ask(SEEN, X, -1), 1);
        marks(d, 2);
        due("with two", d.ask(SEEN, X, -1), 2);
        marks(d, 3);
        due("with three", d.ask(SEEN, X, -1), 3);
    }

    private void headsVariables() {
        QuestionDesk d = desk();
        due("the second one is not", rule(d, PATH, X, Y, EDGE, X, X), -1);
        due("the first one is not", rule(d, PATH, X, Y, EDGE, Y, Y), -1);
        due("both are not", rule(d, PATH, X, LAST_VARIABLE, EDGE, Y, Z), -1);
        due("the one at both is not", rule(d, PATH, X, X, EDGE, Y, Z), -1);
        due("the one beside a constant is not", rule(d, PATH, 1, Y, EDGE, 1, X), -1);
        due("the one of one place is not", rule(d, SEEN, X, -1, MARK, Y, -1), -1);
        due("a constant of its number less 10 is none", rule(d, SEEN, X + 3, -1, MARK, 3, -1), -1);
        due("they are in the first and the third atom", rule(d, PATH, X, Y, EDGE, X, 1, MARK, 2, -1, EDGE, 3, Y), 0);
        due("the last one is", rule(d, SEEN, LAST_VARIABLE, -1, EDGE, 0, LAST_VARIABLE), 1);
        due("one at both places is", rule(d, PATH, X, X, MARK, X, -1), 2);
        due("there are none", rule(d, PATH, 0, 9, MARK, X, -1), 3);
    }

    private void leastModel() {
        QuestionDesk d = desk();
        rule(d, PATH, X, Y, PATH, Y, X);
        rule(d, PATH, X, X, SEEN, X, -1);
        rule(d, SEEN, X, -1, PATH, X, X);
        due("rules that only hang on each other", d.ask(PATH, X, Y), 0);
        due("path", d.of(PATH, 0), 0);
        due("seen", d.of(SEEN, 0), 0);
        rule(d, PATH, 1, 2, MARK, 0, -1);
        marks(d, 0);
        due("and nothing more than what follows", d.ask(PATH, X, Y), 2);
        due("seen still", d.of(SEEN, 0), 0);
    }

    private void modelHasWhatIsTold() {
        QuestionDesk d = desk();
        due("nothing is told", d.ask(EDGE, X, Y), 0);
        due("none of it", d.of(EDGE, 0), 0);
        edges(d, 12);
        d.ask(SEEN, X, -1);
        due("what no rule has", d.holds(EDGE, 1, 2), true);
        allEdges(d);
        marks(d, 0, 9);
        d.ask(SEEN, X, -1);
        due("all edges that there can be", d.of(EDGE, 0), 100);
        due("marks", d.of(MARK, 0), 2);
        due("no other mark", d.holds(MARK, 5, -1), false);
    }

    private void modelHasHeads() {
        QuestionDesk d = desk();
        rule(d, PATH, X, Y, EDGE, X, Z, MARK, Z, -1, EDGE, Z, Y);
        edges(d, 12, 23);
        due("without the second atom", d.ask(PATH, X, Y), 0);
        marks(d, 3);
        due("with another variable's", d.ask(PATH, X, Y), 0);
        marks(d, 2);
        due("with all", d.ask(PATH, X, Y), 1);
        due("the head", d.answer(0), 13);
        d.drop(EDGE, 2, 3);
        due("without the third atom", d.ask(PATH, X, Y), 0);
        everyWay();
        variablesThatStandOnce();
        longChain();
    }

    private void everyWay() {
        QuestionDesk d = desk();
        rule(d, PATH, X, Y, MARK, X, -1, MARK, Y, -1);
        rule(d, SEEN, 4, -1, PATH, LAST_VARIABLE, LAST_VARIABLE);
        marks(d, 0, 1, 2, 3, 4, 5, 6, 7, 8, 9);
        due("two variables in any one way", d.ask(PATH, X, Y), 100);
        due("a head of constants", d.ask(SEEN, X, -1), 1);
        due("which one", d.answer(0), 4);
    }

    private void variablesThatStandOnce() {
        for (int c : new int[] {0, 9}) {
            QuestionDesk d = desk();
            rule(d, SEEN, 1, -1, EDGE, X, 5);
            rule(d, SEEN, 2, -1, EDGE, 5, X);
            rule(d, SEEN, 3, -1, EDGE, X, Y);
            rule(d, SEEN, 4, -1, EDGE, X, Y, MARK, Z, -1);
            d.fact(EDGE, c, 5);
            due("in front, for " + c, d.ask(SEEN, X, -1), 2);
            due("in front, for " + c + ", the head", d.answer(0), 1);
            d.drop(EDGE, c, 5);
            d.fact(EDGE, 5, c);
            due("behind, for " + c, d.ask(SEEN, X, -1), 2);
            due("behind, for " + c + ", the head", d.answer(0), 2);
            marks(d, c);
            due("of one place, for " + c, d.ask(SEEN, X, -1), 3);
        }
    }

    /** The rule that needs the other one's heads stands first, and the chain against the constants' order. */
    private void longChain() {
        QuestionDesk d = desk();
        rule(d, PATH, X, Z, PATH, X, Y, EDGE, Y, Z);
        rule(d, PATH, X, Y, EDGE, X, Y);
        edges(d, 98, 87, 76, 65, 54, 43, 32, 21, 10);
        due("paths of a chain", d.ask(PATH, X, Y), 45);
        edges(d, 9);
        due("paths of a ring", d.ask(PATH, X, Y), 100);
    }

    private void questions() {
        QuestionDesk d = desk();
        allEdges(d);
        due("two variables", d.ask(EDGE, X, Y), 100);
        due("the same one twice", d.ask(EDGE, X, X), 10);
        due("the same one twice, the last", d.ask(EDGE, LAST_VARIABLE, LAST_VARIABLE), 10);
        due("a variable behind", d.ask(EDGE, 9, Y), 10);
        due("a variable in front", d.ask(EDGE, X, 0), 10);
        due("no variable", d.ask(EDGE, 9, 0), 1);
    }

    private void answers() {
        QuestionDesk d = pathDesk();
        due("of what is told", d.ask(EDGE, X, 3), 1);
        due("the told one", d.answer(0), 23);
        due("of what follows", d.ask(PATH, X, 3), 2);
        due("the first one", d.answer(0), 13);
        due("the second one", d.answer(1), 23);
        due("not of the model", d.ask(EDGE, 1, 3), 0);
        due("of a ring that is none", d.ask(PATH, X, X), 0);
        edges(d, 31);
        due("of a ring", d.ask(PATH, X, X), 3);
    }

    private void callsPlaces() {
        QuestionDesk d = pathDesk();
        d.ask(PATH, 1, 3);
        due("both bound", d.called(PATH, 2, 3), true);
        due("of facts", d.called(EDGE, 1, FREE), false);
        due("of facts, in all", d.of(EDGE, 2), 0);
        d.ask(PATH, 1, Y);
        due("the second free", d.called(PATH, 2, FREE), true);
        due("with the second bound", d.called(PATH, 2, 3), false);
        rule(d, SEEN, X, -1, PATH, Y, X);
        d.ask(SEEN, 0, -1);
        due("the first free", d.called(PATH, FREE, 0), true);
        due("of one place", d.called(SEEN, 0, -1), true);
        d.ask(SEEN, X, -1);
        due("both free", d.called(PATH, FREE, FREE), true);
        due("of one place, free", d.called(SEEN, FREE, -1), true);
        due("of one place, bound", d.called(SEEN, 0, -1), false);
    }

    private void firstCall() {
        QuestionDesk d = desk();
        for (int x : new int[] {0, 9, X, LAST_VARIABLE}) {
            for (int y : new int[] {0, 9, X, Y}) {
                d.ask(PATH, x, y);
                String question = "path(" + x + ", " + y + ") ";
                due(question + "is called", d.called(PATH, boundOrFree(x), boundOrFree(y)), true);
                due(question + "alone", d.count(5), 1);
            }
            d.ask(SEEN, x, -1);
            due("seen(" + x + ") is called", d.called(SEEN, boundOrFree(x), -1), true);
            due("seen(" + x + ") alone", d.count(5), 1);
        }
    }

    private static int boundOrFree(int term) {
        return term <= LAST_CONSTANT ? term : FREE;
    }

    /** How many calls of seen the question path(x, y) leads to by one rule. */
    private static int callsOfSeen(QuestionDesk d, int x, int y) {
        d.ask(PATH, x, y);
        return d.of(SEEN, 2);
    }

    private void headsConstants() {
        QuestionDesk both = desk();
        rule(both, PATH, 0, 9, SEEN, 6, -1);
        due("both are those", callsOfSeen(both, 0, 9), 1);
        due("the first is not", callsOfSeen(both, 1, 9), 0);
        due("the second is not", callsOfSeen(both, 0, 8), 0);
        due("the first is, the second is free", callsOfSeen(both, 0, Y), 1);
        due("the first is free, the second is", callsOfSeen(both, X, 9), 1);
        due("the first is not, the second is free", callsOfSeen(both, 9, Y), 0);
        due("the first is free, the second is not", callsOfSeen(both, X, 0), 0);
        due("both are free", callsOfSeen(both, X, Y), 1);
        due("both are free, the same variable", callsOfSeen(both, X, X), 1);
        QuestionDesk one = desk();
        rule(one, SEEN, 5, -1, SEEN, 6, -1);
        one.ask(SEEN, 5, -1);
        due("of one place it is", one.count(5), 2);
        one.ask(SEEN, 4, -1);
        due("of one place it is not", one.count(5), 1);
        one.ask(PATH, 5, 5);
        due("a rule for another predicate", one.count(5), 1);
        callsOfTheNextPredicate();
    }

    private void callsOfTheNextPredicate() {
        QuestionDesk d = new QuestionDesk();
        int way = d.predicate(2, true);
        int next = d.predicate(2, true);
        int end = d.predicate(1, true);
        rule(d, next, X, Y, way, 3, 4, end, X, -1, end, Y, -1);
        rule(d, way, X, Y, end, X, -1, end, Y, -1);
        rule(d, way, X, Y, end, Y, -1, end, X, -1);
        d.ask(next, X, 5);
        due("calls of end", d.of(end, 2), 2);
        due("calls", d.count(5), 4);
        due("by the first place of a call of way", d.called(end, 3, -1), true);
        due("by the second place of a call of way", d.called(end, 4, -1), true);
        due("by the second place of a call of another predicate", d.called(end, 5, -1), false);
    }

    private void headsVariablesAtBoundPlaces() {
        QuestionDesk d = desk();
        rule(d, PATH, X, Y, PATH, Y, X);
        d.ask(PATH, 0, 9);
        due("both turned round", d.called(PATH, 9, 0), true);
        due("both: calls", d.count(5), 2);
        d.ask(PATH, 0, Y);
        due("the first turned round", d.called(PATH, FREE, 0), true);
        due("the first: calls", d.count(5), 2);
        d.ask(PATH, X, 9);
        due("the second turned round", d.called(PATH, 9, FREE), true);
        due("the second: calls", d.count(5), 2);
    }

    private void headsVariableAtBothPlaces() {
        QuestionDesk d = desk();
        rule(d, PATH, X, X, SEEN, X, -1);
        due("not the same", callsOfSeen(d, 2, 3), 0);
        due("the same", callsOfSeen(d, 2, 2), 1);
        due("which one", d.called(SEEN, 2, -1), true);
        due("the first alone is bound", callsOfSeen(d, 3, Y), 1);
        due("which one", d.called(SEEN, 3, -1), true);
        due("the second alone is bound", callsOfSeen(d, X, 4), 1);
        due("which one", d.called(SEEN, 4, -1), true);
        due("none is bound", callsOfSeen(d, X, Y), 1);
        due("which one", d.called(SEEN, FREE, -1), true);
    }

    private void ways() {
        QuestionDesk d = desk();
        rule(d, PATH, X, Z, EDGE, X, Y, SEEN, Y, -1, PATH, Y, Z);
        rule(d, SEEN, X, -1, MARK, X, -1);
        d.ask(PATH, 1, Y);
        due("there is no way", d.count(5), 1);
        edges(d, 12, 13, 45);
        marks(d, 3);
        d.ask(PATH, 1, Y);
        due("one way to the second atom", d.called(SEEN, 2, -1), true);
        due("another way", d.called(SEEN, 3, -1), true);
        due("not for the head's constant", d.called(SEEN, 5, -1), false);
        due("a way to the third atom", d.called(PATH, 3, FREE), true);
        due("a way that ends before it", d.called(PATH, 2, FREE), false);
        due("calls", d.count(5), 4);
        firstAtomsNeedNoWay();
        waysOfConstants();
        waysOfALongChain();
    }

    /** Each call leads to one of a lower constant, while the atoms and the rule behind lead to nothing new. */
    private void waysOfALongChain() {
        QuestionDesk d = desk();
        rule(d, PATH, X, Z, EDGE, X, Y, PATH, Y, Z, SEEN, 0, -1);
        rule(d, SEEN, X, -1, MARK, X, -1, SEEN, X, -1);
        rule(d, PATH, 0, 0, MARK, 0, -1);
        edges(d, 98, 87, 76, 65, 54, 43, 32, 21, 10);
        marks(d, 0);
        d.ask(PATH, 9, Y);
        due("the last call of a chain", d.called(PATH, 0, FREE), true);
        due("the call behind the last one", d.called(SEEN, 0, -1), true);
        due("calls of a chain", d.count(5), 11);
    }

    private void firstAtomsNeedNoWay() {
        QuestionDesk d = desk();
        rule(d, SEEN, X, -1, PATH, X, 1, MARK, X, -1);
        d.ask(SEEN, 2, -1);
        due("no atom is before the first, and those behind do not matter", d.called(PATH, 2, 1), true);
    }

    private void waysOfConstants() {
        QuestionDesk d = desk();
        rule(d, SEEN, X, -1, EDGE, Y, Y, PATH, X, Y);
        rule(d, SEEN, X, -1, EDGE, 4, Y, PATH, Y, X);
        edges(d, 12, 33, 45, 56);
        d.ask(SEEN, 0, -1);
        due("the same variable twice before", d.called(PATH, 0, 3), true);
        due("a constant before", d.called(PATH, 5, 0), true);
        due("calls", d.count(5), 3);
    }

    private void atomsOfRulesAreCalled() {
        QuestionDesk d = desk();
        rule(d, SEEN, X, -1, EDGE, X, Y, PATH, X, Y, MARK, Y, -1);
        edges(d, 12);
        d.ask(SEEN, 1, -1);
        due("the one of rules", d.called(PATH, 1, 2), true);
        due("the first, of facts", d.of(EDGE, 2), 0);
        due("the third, of facts", d.of(MARK, 2), 0);
        due("calls", d.count(5), 2);
    }

    private void boundConstant() {
        QuestionDesk d = desk();
        rule(d, SEEN, X, -1, PATH, 0, Y, MARK, X, -1);
        rule(d, SEEN, X, -1, PATH, Y, 9, MARK, X, -1);
        rule(d, PATH, X, Y, SEEN, 7, -1, EDGE, X, Y);
        d.ask(SEEN, X, -1);
        due("the first place", d.called(PATH, 0, FREE), true);
        due("the second place", d.called(PATH, FREE, 9), true);
        due("of one place", d.called(SEEN, 7, -1), true);
        due("calls", d.count(5), 4);
    }

    private void boundByHead() {
        QuestionDesk d = desk();
        rule(d, SEEN, X, -1, PATH, X, Y);
        rule(d, PATH, X, Y, SEEN, Y, -1, EDGE, X, Y);
        d.ask(SEEN, 1, -1);
        due("it is bound there", d.called(PATH, 1, FREE), true);
        due("it is free there", d.called(SEEN, FREE, -1), true);
        d.ask(PATH, 1, 4);
        due("at the second place", d.called(SEEN, 4, -1), true);
        due("not the first place's", d.called(SEEN, 1, -1), false);
    }

    private void boundByAtomBefore() {
        QuestionDesk d = desk();
        rule(d, SEEN, X, -1, MARK, Y, -1, PATH, Y, Z, PATH, Z, X);
        rule(d, PATH, X, Y, EDGE, X, Y);
        marks(d, 2);
        edges(d, 23, 45);
        d.ask(SEEN, X, -1);
        due("in the first atom, of facts", d.called(PATH, 2, FREE), true);
        due("in the second atom, of rules", d.called(PATH, 3, FREE), true);
        due("calls", d.count(5), 3);
    }

    private void othersAreFree() {
        QuestionDesk d = desk();
        rule(d, SEEN, X, -1, PATH, Y, Y, MARK, X, -1);
        d.ask(SEEN, 1, -1);
        due("one that is twice in the atom itself", d.called(PATH, FREE, FREE), true);
        due("calls", d.count(5), 2);
        QuestionDesk behind = desk();
        rule(behind, SEEN, X, -1, PATH, X, Y, MARK, Y, -1);
        marks(behind, 4);
        behind.ask(SEEN, 1, -1);
        due("one that is in an atom behind", behind.called(PATH, 1, FREE), true);
        due("and not bound", behind.called(PATH, 1, 4), false);
        QuestionDesk head = desk();
        rule(head, PATH, X, Y, SEEN, Y, -1, EDGE, X, Y);
        head.ask(PATH, 1, Y);
        due("one that is at a free place of the head", head.called(SEEN, FREE, -1), true);
        due("calls", head.count(5), 2);
    }

    private void calledFor() {
        QuestionDesk d = pathDesk();
        d.ask(PATH, 1, Y);
        due("it has a call's constant", d.wanted(PATH, 2, 3), true);
        due("it is not in the model, though called", d.wanted(PATH, 3, 1), false);
        due("it has no call's constant", d.wanted(PATH, 5, 6), false);
        due("in all", d.of(PATH, 1), 3);
        d.ask(PATH, X, 3);
        due("by the second place", d.wanted(PATH, 1, 3), true);
        due("not by the second place", d.wanted(PATH, 1, 2), false);
        d.ask(PATH, 1, 3);
        due("by both places", d.wanted(PATH, 2, 3), true);
        due("by one of both places alone", d.wanted(PATH, 1, 2), false);
        d.ask(PATH, X, X);
        due("by no bound place", d.wanted(PATH, 5, 6), true);
        due("by two calls it is still one", d.of(PATH, 1), 4);
    }

    private void calledForByItsPredicate() {
        QuestionDesk d = pathDesk();
        int way = d.predicate(2, true);
        rule(d, way, X, Y, EDGE, X, Y);
        d.ask(way, 1, Y);
        due("of the call's predicate", d.wanted(way, 1, 2), true);
        due("of another one with the same constants", d.wanted(PATH, 1, 2), false);
        due("in all", d.count(6), 1);
    }

    private void questionOfFactsHasNoCalls() {
        QuestionDesk d = factsAskedBehindRules();
        due("count(5)", d.count(5), 0);
        due("count(6)", d.count(6), 0);
        due("called, the question", d.called(EDGE, FREE, 3), false);
        due("called, of the question before", d.called(PATH, 1, FREE), false);
        due("of(path, 2)", d.of(PATH, 2), 0);
        due("of(edge, 2)", d.of(EDGE, 2), 0);
        due("wanted", d.wanted(PATH, 1, 2), false);
        due("but answers", d.answer(0), 23);
        due("and a model", d.of(PATH, 0), 4);
    }

    private void questionOfFactsHasNoPatterns() {
        QuestionDesk d = factsAskedBehindRules();
        due("count(3)", d.count(3), 0);
        due("of(path, 3)", d.of(PATH, 3), 0);
        due("of(edge, 3)", d.of(EDGE, 3), 0);
    }

    private void questionOfFactsHasNoRewrittenRules() {
        due("count(4)", factsAskedBehindRules().count(4), 0);
    }

    private static QuestionDesk factsAskedBehindRules() {
        QuestionDesk d = pathDesk();
        d.ask(PATH, 1, Y);
        d.ask(EDGE, X, 3);
        return d;
    }

    private void throwingChangesNothing() {
        throwing("predicate(0)", d -> d.predicate(0, true));
        throwing("predicate(3)", d -> d.predicate(3, false));
        throwing("fact", d -> d.fact(EDGE, 1, 10));
        throwing("fact of rules", d -> d.fact(PATH, 4, 4));
        throwing("drop", d -> d.drop(EDGE, 1, -1));
        throwing("drop of rules", d -> d.drop(PATH, 1, 2));
        throwing("head", d -> d.head(PATH, 18, X));
        throwing("head of facts", d -> d.head(EDGE, X, Y));
        throwing("body", d -> d.body(EDGE, X, 18));
        throwing("body of no predicate", d -> d.body(4, X, Y));
        throwing("ask", d -> d.ask(PATH, X, 18));
        throwing("ask of no predicate", d -> d.ask(-1, X, Y));
        throwing("holds", d -> d.holds(PATH, 1, 10));
        throwing("wanted", d -> d.wanted(PATH, 10, 1));
        throwing("called", d -> d.called(PATH, -2, 1));
        bodyThatIsFull();
        doneWithoutARule();
        askBeforeAnyQuestion();
    }

    /** The call throws where a question was asked, edges have changed since, and a rule has begun. */
    private void throwing(String name, Consumer<QuestionDesk> call) {
        QuestionDesk d = pathDesk();
        d.ask(PATH, 1, Y);
        d.drop(EDGE, 1, 2);
        d.head(SEEN, X, -1);
        d.body(EDGE, Y, X);
        List<Object> before = look(d);
        before.addAll(told(d));
        illegalArgument(name, () -> call.accept(d));
        List<Object> after = look(d);
        after.addAll(told(d));
        due(name + ", what is seen", after, before);
        due(name + ", the rule that has begun", d.body(EDGE, X, Z), 2);
        due(name + ", its number", d.done(), 2);
        due(name + ", the edges", d.ask(EDGE, X, Y), 2);
        due(name + ", what follows", d.ask(SEEN, X, -1), 0);
        edges(d, 35);
        due(name + ", the rule itself", d.ask(SEEN, X, -1), 2);
        due(name + ", the next predicate", d.predicate(1, true), PREDICATES);
    }

    private void bodyThatIsFull() {
        QuestionDesk d = desk();
        d.head(SEEN, X, -1);
        d.body(MARK, X, -1);
        d.body(MARK, 1, -1);
        d.body(MARK, 2, -1);
        illegalState("a fourth atom", () -> d.body(MARK, 5, -1));
        due("done behind a fourth atom", d.done(), 0);
        marks(d, 1, 2);
        due("the three atoms", d.ask(SEEN, X, -1), 2);
        d.head(SEEN, 5, -1);
        due("the next rule's first atom", d.body(MARK, 1, -1), 1);
    }

    private void doneWithoutARule() {
        QuestionDesk d = pathDesk();
        illegalState("done", d::done);
        due("count(1)", d.count(1), 2);
        illegalState("body behind done that threw", () -> d.body(EDGE, X, Y));
        due("ask", d.ask(PATH, X, Y), 4);
    }

    private void askBeforeAnyQuestion() {
        QuestionDesk d = pathDesk();
        illegalArgument("ask", () -> d.ask(PATH, 18, Y));
        illegalArgument("ask of one place", () -> d.ask(SEEN, X, 0));
        for (int what = 3; what < 7; what++) {
            due("still nothing was asked: count(" + what + ")", d.count(what), -1);
        }
        due("still nothing was asked: of(path, 0)", d.of(PATH, 0), -1);
        due("still nothing was asked: holds", d.holds(EDGE, 1, 2), false);
    }

    private static List<Object> told(QuestionDesk d) {
        return List.of(d.count(0), d.count(1), d.count(2));
    }

    /** What is answered about a question, as far as few calls can tell. */
    private static List<Object> look(QuestionDesk d) {
        List<Object> seen = new ArrayList<>();
        for (int i = 0; i < 5; i++) {
            seen.add(d.answer(i));
        }
        for (int what = 3; what < 7; what++) {
            seen.add(d.count(what));
        }
        for (int p = 0; p <= PREDICATES; p++) {
            for (int what = 0; what < 4; what++) {
                seen.add(d.of(p, what));
            }
        }
        for (int x = 1; x < 5; x++) {
            seen.add(d.called(PATH, x, FREE));
            seen.add(d.called(SEEN, x, -1));
            for (int y = 1; y < 5; y++) {
                seen.add(d.holds(EDGE, x, y));
                seen.add(d.holds(PATH, x, y));
                seen.add(d.wanted(PATH, x, y));
                seen.add(d.called(PATH, x, y));
            }
        }
        return seen;
    }

    private void toldBehindAQuestion() {
        behindAQuestion("fact", d -> edges(d, 34));
        behindAQuestion("fact that was dropped and is told again", d -> {
            d.drop(EDGE, 1, 2);
            edges(d, 12, 21);
        });
        behindAQuestion("predicate", d -> d.predicate(2, true));
        behindAQuestion("head", d -> d.head(PATH, X, Y));
        behindAQuestion("body", d -> {
            d.head(PATH, X, Y);
            d.body(EDGE, Y, X);
        });
        behindAQuestion("rule", d -> rule(d, PATH, X, Y, EDGE, Y, X, SEEN, X, -1));
    }

    private void takenBehindAQuestion() {
        behindAQuestion("drop of the first edge", d -> d.drop(EDGE, 1, 2));
        behindAQuestion("drop of all", d -> {
            d.drop(EDGE, 1, 2);
            d.drop(EDGE, 2, 3);
            d.drop(EDGE, 5, 6);
        });
        behindAQuestion("take of the first rule", d -> d.take(0));
        behindAQuestion("take of all", d -> {
            d.take(1);
            d.take(0);
        });
    }

    private void behindAQuestion(String name, Consumer<QuestionDesk> call) {
        QuestionDesk d = pathDesk();
        d.ask(PATH, 1, Y);
        List<Object> before = look(d);
        call.accept(d);
        due(name, look(d), before);
    }

    private void patterns() {
        QuestionDesk d = pathDesk();
        d.ask(PATH, 1, Y);
        due("other constants make no other pattern", d.count(3), 1);
        due("though they make other calls", d.count(5), 3);
        QuestionDesk all = desk();
        rule(all, SEEN, X, -1, MARK, X, -1, PATH, 0, Y, PATH, Z, 9);
        rule(all, SEEN, X, -1, MARK, X, -1, PATH, 0, 9, PATH, Y, Z);
        all.ask(SEEN, X, -1);
        due("of two places all four", all.of(PATH, 3), 4);
        due("of one place, free", all.of(SEEN, 3), 1);
        rule(all, SEEN, X, -1, MARK, X, -1, SEEN, X, -1);
        all.ask(SEEN, X, -1);
        due("of one place both", all.of(SEEN, 3), 2);
        due("of facts none", all.of(MARK, 3), 0);
        due("in all", all.count(3), 6);
    }

    private void firstPattern() {
        QuestionDesk d = desk();
        for (int x : new int[] {0, X}) {
            for (int y : new int[] {9, Y}) {
                d.ask(PATH, x, y);
                due("count(3) of path(" + x + ", " + y + ")", d.count(3), 1);
                due("of(path, 3) of path(" + x + ", " + y + ")", d.of(PATH, 3), 1);
            }
        }
        d.ask(SEEN, 0, -1);
        due("of one place", d.of(SEEN, 3), 1);
        due("not of the question before", d.of(PATH, 3), 0);
        rule(d, SEEN, X, -1, MARK, X, -1, SEEN, X, -1);
        d.ask(SEEN, 0, -1);
        due("bound, and nothing else is", d.of(SEEN, 3), 1);
        d.ask(SEEN, X, -1);
        due("free, and a bound one behind it", d.of(SEEN, 3), 2);
    }

    private void patternsOfAtoms() {
        QuestionDesk d = desk();
        rule(d, PATH, 4, X, EDGE, 4, X, SEEN, X, -1);
        rule(d, SEEN, X, -1, PATH, X, X);
        d.ask(PATH, 5, Y);
        due("calls, where the head's constant is another", d.count(5), 1);
        due("patterns nonetheless", d.of(SEEN, 3), 1);
        due("and those that they give", d.of(PATH, 3), 2);
        d.ask(PATH, 4, Y);
        due("calls, where there is no way", d.count(5), 1);
        due("patterns nonetheless", d.count(3), 3);
        QuestionDesk same = desk();
        rule(same, PATH, X, X, SEEN, X, -1);
        same.ask(PATH, 2, 3);
        due("calls, where a variable is not the same at both", same.count(5), 1);
        due("patterns nonetheless", same.count(3), 2);
        patternsAreBoundAsCalls();
        patternsOfALongChain();
    }

    /** The rules stand against the chain's order, and no call but the question's is there. */
    private void patternsOfALongChain() {
        QuestionDesk d = new QuestionDesk();
        for (int p = 0; p < 10; p++) {
            d.predicate(1, true);
        }
        for (int p = 8; p >= 0; p--) {
            rule(d, p, 1, -1, p + 1, 1, -1);
        }
        d.ask(0, 2, -1);
        due("calls of a chain", d.count(5), 1);
        due("patterns of a chain", d.count(3), 10);
        due("the last pattern of a chain", d.of(9, 3), 1);
        due("rewritten rules of a chain", d.count(4), 18);
    }

    private void patternsAreBoundAsCalls() {
        QuestionDesk d = desk();
        int way = d.predicate(2, true);
        rule(d, SEEN, X, -1, PATH, X, Y, way, Y, Z, MARK, Z, -1);
        rule(d, way, X, Y, PATH, X, 3, EDGE, X, Y);
        d.ask(SEEN, 1, -1);
        due("by the head, and by a constant too", d.of(PATH, 3), 2);
        due("by the atom before", d.of(way, 3), 1);
        due("of facts", d.of(MARK, 3), 0);
        due("in all", d.count(3), 4);
        due("while there are no ways", d.count(5), 2);
    }

    private void rewrittenRules() {
        QuestionDesk d = desk();
        d.ask(PATH, 1, Y);
        due("without rules", d.count(4), 0);
        rule(d, PATH, X, Y, EDGE, X, Y);
        d.ask(PATH, 1, Y);
        due("one rule", d.count(4), 1);
        rule(d, PATH, X, Y, EDGE, X, Y);
        d.ask(PATH, 1, Y);
        due("the same rule again", d.count(4), 2);
        rule(d, SEEN, X, -1, MARK, X, -1);
        d.ask(PATH, 1, Y);
        due("a rule for a predicate without pattern", d.count(4), 2);
        rule(d, SEEN, X, -1, PATH, X, Y);
        d.ask(SEEN, X, -1);
        due("of two predicates", d.count(4), 5);
        QuestionDesk two = pathDesk();
        two.ask(PATH, X, 3);
        due("two patterns", two.count(3), 2);
        due("two rules for each of two patterns, and their atoms", two.count(4), 6);
    }

    private void rewrittenRulesOfAtoms() {
        QuestionDesk d = desk();
        rule(d, SEEN, X, -1, MARK, X, -1, MARK, X, -1, SEEN, X, -1);
        d.ask(SEEN, 1, -1);
        due("one of three", d.count(4), 2);
        d.ask(SEEN, X, -1);
        due("one of three, for two patterns", d.count(4), 4);
        rule(d, PATH, X, Y, PATH, X, Y, PATH, X, Y, PATH, X, Y);
        d.ask(PATH, 1, 2);
        due("three of three, though they are the same", d.count(4), 4);
        QuestionDesk full = desk();
        for (int r = 0; r < 15; r++) {
            rule(full, PATH, X, Y, PATH, 1, 2, PATH, 1, Z, PATH, X, Y);
            rule(full, PATH, X, Y, PATH, Z, 2, PATH, 13, 14, PATH, X, Y);
        }
        full.ask(PATH, X, Y);
        due("thirty rules, four patterns, three atoms", full.count(4), 480);
    }
}

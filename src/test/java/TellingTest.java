/** The sentences of promises 1 to 8: a new object, and what is told and taken away. */
public final class TellingTest extends Sentences {
    public static void main(String[] args) {
        TellingTest t = new TellingTest();
        t.newObjectAndPredicates();
        t.facts();
        t.heads();
        t.bodies();
        t.doneRules();
        t.takenRules();
        t.endOfSection();
        t.end("TellingTest");
    }

    private void newObjectAndPredicates() {
        in("Promise 1: A new object");
        of("No predicates.", this::noPredicates);
        in("Promise 2: predicate");
        of("A new predicate, of one place or two, of rules or of facts: its number;", this::predicateNumbers);
        of("NONE when there are 10.", this::predicateWhenThereAreTen);
        of("IllegalArgumentException when places is not 1 or 2.", this::predicateOfWrongPlaces);
    }

    private void facts() {
        in("Promise 3: fact");
        of("A fact is told: true;", this::factIsTold);
        of("false when it was.", this::factWasTold);
        of("IllegalArgumentException when there is no such predicate of facts,", this::factOfNoPredicate);
        of("or x, y are not constants", this::factOfNoConstants);
        of("(y of one place: -1).", this::factOfOnePlace);
        in("Promise 4: drop");
        of("A fact is told no more: true;", this::dropOfAFact);
        of("false when it was not.", this::dropOfNone);
        of("Throws as fact.", this::dropThrows);
    }

    private void heads() {
        in("Promise 5: head");
        of("A rule begins,", this::headBegins);
        of("with its head;", this::headIsTheRules);
        of("one that had begun is forgotten.", this::headForgets);
        of("IllegalArgumentException when there is no such predicate of rules,", this::headOfNoPredicate);
        of("or x, y are not terms.", this::headOfNoTerms);
    }

    private void bodies() {
        in("Promise 6: body");
        of("An atom behind the body's others:", this::bodyKeepsItsOrder);
        of("how many it has.", this::bodyCounts);
        of("IllegalStateException when no rule has begun,", this::bodyWithoutARule);
        of("or it has three;", this::bodyOfFour);
        of("else IllegalArgumentException when there is no such predicate,", this::bodyOfNoPredicate);
        of("or x, y are not terms.", this::bodyOfNoTerms);
    }

    private void doneRules() {
        in("Promise 7: done");
        of("The rule is done: its number;", this::doneNumbers);
        of("NONE, and it is forgotten, when the body is empty,", this::doneWithoutBody);
        of("a variable of the head is not in it,", this::doneWithoutVariable);
        of("or there are 30 rules.", this::doneWhenThereAreThirty);
        of("IllegalStateException when none has begun.", this::doneWithoutARule);
    }

    private void takenRules() {
        in("Promise 8: take");
        of("A rule is taken away;", this::takeARule);
        of("those behind it have numbers one less: true;", this::takeMovesThoseBehind);
        of("false when there is none such.", this::takeOfNone);
    }

    private void noPredicates() {
        QuestionDesk d = new QuestionDesk();
        due("NONE", QuestionDesk.NONE, -1);
        due("count(0)", d.count(0), 0);
        AtomCall[] calls = {d::fact, d::drop, d::head, d::ask, d::holds, d::wanted, d::called};
        for (AtomCall call : calls) {
            illegalArgument("a call of predicate 0", () -> call.on(0, 0, 0));
            illegalArgument("a call of predicate 0, one place", () -> call.on(0, 0, -1));
        }
        due("of(0, 0)", d.of(0, 0), -1);
        due("no rules: count(1)", d.count(1), 0);
        due("no rules: take(0)", d.take(0), false);
        due("no facts: count(2)", d.count(2), 0);
        illegalState("no rule has begun: body", () -> d.body(0, 0, 0));
        illegalState("no rule has begun: done", d::done);
        due("nothing was asked: answer(0)", d.answer(0), -1);
        due("the first predicate", d.predicate(1, false), 0);
        due("another new object has none of it", new QuestionDesk().count(0), 0);
    }

    private void predicateNumbers() {
        QuestionDesk d = new QuestionDesk();
        for (int p = 0; p < 10; p++) {
            due("predicate", d.predicate(1 + p % 2, p % 4 > 1), p);
            due("count(0)", d.count(0), p + 1);
        }
        for (int p = 0; p < 10; p++) {
            int number = p;
            int y = p % 2 == 0 ? -1 : 0;
            boolean isOfRules = p % 4 > 1;
            due("predicate " + p + " has its places", d.ask(p, 0, y), 0);
            illegalArgument("predicate " + p + " has no others", () -> d.ask(number, 0, -1 - y));
            due("fact of " + p, thrownBy(() -> d.fact(number, 0, y)).equals("nothing"), !isOfRules);
            due("head of " + p, thrownBy(() -> d.head(number, 0, y)).equals("nothing"), isOfRules);
        }
    }

    private void predicateWhenThereAreTen() {
        QuestionDesk d = new QuestionDesk();
        for (int p = 0; p < 10; p++) {
            due("there are " + p, d.predicate(2, false), p);
        }
        for (int again = 0; again < 2; again++) {
            due("of one place, of facts", d.predicate(1, false), QuestionDesk.NONE);
            due("of two places, of rules", d.predicate(2, true), QuestionDesk.NONE);
        }
        due("count(0)", d.count(0), 10);
        due("the last one is as it was", d.fact(9, 1, 2), true);
        illegalArgument("the one that was not made", () -> d.fact(10, 1, -1));
    }

    private void predicateOfWrongPlaces() {
        QuestionDesk d = new QuestionDesk();
        for (int places : new int[] {0, 3, -1, -2, 10, LEAST, GREATEST}) {
            illegalArgument("predicate(" + places + ", false)", () -> d.predicate(places, false));
            illegalArgument("predicate(" + places + ", true)", () -> d.predicate(places, true));
        }
        due("count(0)", d.count(0), 0);
        for (int p = 0; p < 10; p++) {
            due("the next number", d.predicate(1, true), p);
        }
        illegalArgument("predicate(0) when there are 10", () -> d.predicate(0, true));
        illegalArgument("predicate(3) when there are 10", () -> d.predicate(3, true));
    }

    private void factIsTold() {
        QuestionDesk d = desk();
        for (int edge : new int[] {0, 9, 90, 99}) {
            due("fact(edge, " + edge / 10 + ", " + edge % 10 + ")", d.fact(EDGE, edge / 10, edge % 10), true);
        }
        due("fact(mark, 0)", d.fact(MARK, 0, -1), true);
        due("fact(mark, 9)", d.fact(MARK, 9, -1), true);
        due("count(2)", d.count(2), 6);
        due("edges", d.ask(EDGE, X, Y), 4);
        due("marks", d.ask(MARK, X, -1), 2);
        allEdges(d);
        due("all edges that there can be", d.ask(EDGE, X, Y), 100);
        due("count(2) of all", d.count(2), 102);
    }

    private void factWasTold() {
        QuestionDesk d = desk();
        int link = d.predicate(2, false);
        d.fact(EDGE, 0, 9);
        d.fact(MARK, 3, -1);
        due("again", d.fact(EDGE, 0, 9), false);
        due("again, one place", d.fact(MARK, 3, -1), false);
        due("count(2)", d.count(2), 2);
        due("turned round it was not", d.fact(EDGE, 9, 0), true);
        due("of another predicate it was not", d.fact(link, 0, 9), true);
        due("another mark was not", d.fact(MARK, 4, -1), true);
        d.drop(EDGE, 0, 9);
        due("dropped it is no more", d.fact(EDGE, 0, 9), true);
    }

    private void factOfNoPredicate() {
        QuestionDesk d = desk();
        noSuchPredicate("fact", d::fact);
        illegalArgument("fact of rules", () -> d.fact(PATH, 0, 0));
        illegalArgument("fact of rules, one place", () -> d.fact(SEEN, 0, -1));
        due("count(2)", d.count(2), 0);
    }

    private void factOfNoConstants() {
        QuestionDesk d = desk();
        beyondOfTwo("fact", d::fact, EDGE, 0, LAST_CONSTANT);
        beyondOfOne("fact", d::fact, MARK, 0, LAST_CONSTANT);
        due("count(2)", d.count(2), 6);
    }

    private void factOfOnePlace() {
        QuestionDesk d = desk();
        secondOfOne("fact", d::fact, MARK);
        due("count(2)", d.count(2), 1);
        illegalArgument("-1 of two places", () -> d.fact(EDGE, 0, -1));
    }

    private void dropOfAFact() {
        QuestionDesk d = desk();
        edges(d, 0, 34, 35, 99);
        marks(d, 0, 9);
        due("drop(edge, 3, 4)", d.drop(EDGE, 3, 4), true);
        due("count(2)", d.count(2), 5);
        due("drop(edge, 0, 0)", d.drop(EDGE, 0, 0), true);
        due("drop(mark, 9)", d.drop(MARK, 9, -1), true);
        due("the edges that are left", d.ask(EDGE, X, Y), 2);
        due("the first of them", d.answer(0), 35);
        due("the marks that are left", d.ask(MARK, X, -1), 1);
        due("drop(edge, 9, 9)", d.drop(EDGE, 9, 9), true);
        due("drop(edge, 3, 5)", d.drop(EDGE, 3, 5), true);
        due("no edge is left", d.ask(EDGE, X, Y), 0);
    }

    private void dropOfNone() {
        QuestionDesk d = desk();
        due("of nothing that is told", d.drop(EDGE, 0, 0), false);
        edges(d, 34);
        due("turned round", d.drop(EDGE, 4, 3), false);
        due("of another predicate", d.drop(MARK, 3, -1), false);
        due("count(2)", d.count(2), 1);
        d.drop(EDGE, 3, 4);
        due("again", d.drop(EDGE, 3, 4), false);
        due("count(2) of none", d.count(2), 0);
    }

    private void dropThrows() {
        QuestionDesk d = desk();
        noSuchPredicate("drop", d::drop);
        illegalArgument("drop of rules", () -> d.drop(PATH, 0, 0));
        illegalArgument("drop of rules, one place", () -> d.drop(SEEN, 0, -1));
        beyondOfTwo("drop", d::drop, EDGE, 0, LAST_CONSTANT);
        beyondOfOne("drop", d::drop, MARK, 0, LAST_CONSTANT);
        secondOfOne("drop", d::drop, MARK);
    }

    private void headBegins() {
        QuestionDesk d = desk();
        illegalState("before it", () -> d.body(EDGE, X, Y));
        d.head(PATH, X, Y);
        due("count(1) has none that has only begun", d.count(1), 0);
        due("take(0) of one that has only begun", d.take(0), false);
        edges(d, 12);
        due("it does not count yet", d.ask(PATH, X, Y), 0);
        due("behind it", d.body(EDGE, X, Y), 1);
        due("with its body it does not count yet", d.ask(PATH, X, Y), 0);
        due("done", d.done(), 0);
        due("then it counts", d.ask(PATH, X, Y), 1);
    }

    private void headIsTheRules() {
        QuestionDesk d = desk();
        marks(d, 5);
        edges(d, 34);
        rule(d, PATH, 0, 9, MARK, 5, -1);
        rule(d, PATH, LAST_VARIABLE, 8, EDGE, LAST_VARIABLE, X);
        rule(d, PATH, 8, Y, EDGE, X, Y);
        rule(d, PATH, X, X, MARK, X, -1);
        rule(d, PATH, Y, X, EDGE, X, Y);
        rule(d, SEEN, 9, -1, MARK, X, -1);
        due("paths", d.ask(PATH, X, Y), 5);
        int[] answers = {9, 38, 43, 55, 84};
        for (int i = 0; i < answers.length; i++) {
            due("path " + i, d.answer(i), answers[i]);
        }
        due("seen", d.ask(SEEN, 9, -1), 1);
    }

    private void headForgets() {
        QuestionDesk d = desk();
        d.head(PATH, 1, 2);
        d.body(MARK, X, -1);
        d.body(MARK, X, -1);
        d.body(MARK, X, -1);
        d.head(SEEN, X, -1);
        due("the body is empty again", d.body(MARK, X, -1), 1);
        due("one rule is done", d.done(), 0);
        illegalState("and no other", d::done);
        marks(d, 4);
        due("the later head counts", d.ask(SEEN, X, -1), 1);
        due("the one before is forgotten", d.of(PATH, 0), 0);
        d.head(PATH, 1, 2);
        d.body(MARK, 4, -1);
        d.head(PATH, 1, 2);
        due("the same head without its body", d.done(), -1);
    }

    private void headOfNoPredicate() {
        QuestionDesk d = desk();
        noSuchPredicate("head", d::head);
        illegalArgument("head of facts", () -> d.head(EDGE, X, Y));
        illegalArgument("head of facts, one place", () -> d.head(MARK, X, -1));
        illegalState("no rule has begun by them", () -> d.body(EDGE, X, Y));
    }

    private void headOfNoTerms() {
        QuestionDesk d = desk();
        beyondOfTwo("head", d::head, PATH, 0, LAST_VARIABLE);
        beyondOfOne("head", d::head, SEEN, 0, LAST_VARIABLE);
        secondOfOne("head", d::head, SEEN);
    }

    private void bodyKeepsItsOrder() {
        QuestionDesk d = desk();
        edges(d, 12);
        rule(d, SEEN, X, -1, EDGE, X, Y, PATH, Y, Z);
        d.ask(SEEN, 1, -1);
        due("path behind edge", d.called(PATH, 2, FREE), true);
        due("path behind edge, not free", d.called(PATH, FREE, FREE), false);
        d.take(0);
        rule(d, SEEN, X, -1, PATH, Y, Z, EDGE, X, Y);
        d.ask(SEEN, 1, -1);
        due("path before edge", d.called(PATH, FREE, FREE), true);
        due("path before edge, not bound", d.called(PATH, 2, FREE), false);
    }

    private void bodyCounts() {
        QuestionDesk d = desk();
        d.head(PATH, X, Y);
        due("the first, of facts", d.body(EDGE, X, LAST_VARIABLE), 1);
        due("the second, of rules", d.body(SEEN, LAST_VARIABLE, -1), 2);
        due("the third, the second again", d.body(SEEN, LAST_VARIABLE, -1), 3);
        d.head(PATH, X, Y);
        due("the first of the next rule", d.body(PATH, X, Y), 1);
    }

    private void bodyWithoutARule() {
        QuestionDesk d = desk();
        illegalState("on a new object", () -> d.body(EDGE, X, Y));
        illegalState("of no predicate", () -> d.body(77, X, Y));
        illegalState("of no terms", () -> d.body(EDGE, 18, -1));
        illegalArgument("a head that throws", () -> d.head(PATH, X, 18));
        illegalState("behind it", () -> d.body(EDGE, X, Y));
        due("a rule", rule(d, PATH, X, Y, EDGE, X, Y), 0);
        illegalState("behind a rule that is done", () -> d.body(EDGE, X, Y));
        due("a rule that is refused", rule(d, PATH, X, Y, EDGE, X, X), -1);
        illegalState("behind it", () -> d.body(EDGE, Y, Y));
    }

    private void bodyOfFour() {
        QuestionDesk d = desk();
        d.head(PATH, 1, 2);
        d.body(EDGE, X, Y);
        d.body(EDGE, X, Y);
        due("the third", d.body(EDGE, X, Y), 3);
        illegalState("the fourth", () -> d.body(EDGE, X, Y));
        illegalState("the fourth again", () -> d.body(MARK, X, -1));
        illegalState("the fourth, of no predicate", () -> d.body(-1, X, Y));
        illegalState("the fourth, of no terms", () -> d.body(EDGE, X, 18));
        due("done", d.done(), 0);
    }

    private void bodyOfNoPredicate() {
        QuestionDesk d = desk();
        d.head(PATH, X, Y);
        noSuchPredicate("first body", d::body);
        d.body(EDGE, X, Y);
        d.body(EDGE, X, Y);
        noSuchPredicate("third body", d::body);
        due("body", d.body(EDGE, X, Y), 3);
    }

    private void bodyOfNoTerms() {
        QuestionDesk d = desk();
        AtomCall body = (p, x, y) -> {
            d.head(PATH, 1, 2);
            d.body(p, x, y);
        };
        beyondOfTwo("body", body, EDGE, 0, LAST_VARIABLE);
        beyondOfTwo("body", body, PATH, 0, LAST_VARIABLE);
        beyondOfOne("body", body, MARK, 0, LAST_VARIABLE);
        beyondOfOne("body", body, SEEN, 0, LAST_VARIABLE);
        secondOfOne("body", body, MARK);
        secondOfOne("body", body, SEEN);
    }

    private void doneNumbers() {
        QuestionDesk d = desk();
        for (int r = 0; r < 30; r++) {
            due("rule " + r, rule(d, PATH, X, Y, EDGE, X, Y), r);
            due("count(1)", d.count(1), r + 1);
        }
        illegalState("the last one is done", d::done);
    }

    private void refused(QuestionDesk d, String name, int... atoms) {
        int before = d.count(1);
        due(name, rule(d, atoms), QuestionDesk.NONE);
        illegalState(name + ", it is forgotten: done", d::done);
        illegalState(name + ", it is forgotten: body", () -> d.body(EDGE, X, Y));
        due(name + ", count(1)", d.count(1), before);
    }

    private void doneWithoutBody() {
        QuestionDesk d = desk();
        refused(d, "head of variables", PATH, X, Y);
        refused(d, "head of constants", PATH, 1, 2);
        refused(d, "head of one place", SEEN, 1, -1);
        due("a rule behind them", rule(d, SEEN, 1, -1, MARK, 1, -1), 0);
        refused(d, "head behind a rule", SEEN, 1, -1);
        d.ask(PATH, X, Y);
        due("nothing follows", d.of(PATH, 0), 0);
    }

    private void doneWithoutVariable() {
        QuestionDesk d = desk();
        refused(d, "the first", PATH, X, Y, EDGE, Y, Z);
        refused(d, "the second", PATH, X, Y, EDGE, X, Z);
        refused(d, "both", PATH, X, Y, EDGE, Z, Z);
        refused(d, "the same twice", PATH, X, X, EDGE, Y, Y, MARK, Z, -1);
        refused(d, "the last variable", SEEN, LAST_VARIABLE, -1, EDGE, X, Y, EDGE, Y, Z, EDGE, Z, 16);
        edges(d, 12);
        d.ask(PATH, X, Y);
        due("nothing follows", d.of(PATH, 0), 0);
        due("it is in the last atom", rule(d, SEEN, LAST_VARIABLE, -1, MARK, X, -1, MARK, X, -1, EDGE, 0, LAST_VARIABLE), 0);
        due("the head has none", rule(d, PATH, 0, 9, EDGE, X, Y), 1);
    }

    private void doneWhenThereAreThirty() {
        QuestionDesk d = desk();
        for (int r = 0; r < 30; r++) {
            due("rule " + r, rule(d, SEEN, 1, -1, MARK, 1, -1), r);
        }
        refused(d, "rule 30", SEEN, 2, -1, MARK, 1, -1);
        refused(d, "rule 30 again", PATH, X, Y, EDGE, X, Y);
        marks(d, 1);
        edges(d, 12);
        due("what follows of the thirty", d.ask(SEEN, X, -1), 1);
        due("nothing follows of those", d.of(PATH, 0), 0);
        d.head(SEEN, 3, -1);
        d.body(MARK, 1, -1);
        due("take", d.take(7), true);
        due("one that began before", d.done(), 29);
        due("it counts", d.ask(SEEN, X, -1), 2);
        refused(d, "rule 30 once more", SEEN, 2, -1, MARK, 1, -1);
    }

    private void doneWithoutARule() {
        QuestionDesk d = desk();
        illegalState("on a new object", d::done);
        illegalArgument("a head that throws", () -> d.head(EDGE, X, Y));
        illegalState("behind it", d::done);
        due("a rule", rule(d, PATH, X, Y, EDGE, X, Y), 0);
        illegalState("behind it", d::done);
        d.take(0);
        illegalState("behind take", d::done);
        due("count(1)", d.count(1), 0);
    }

    private static QuestionDesk deskOfFourRules() {
        QuestionDesk d = desk();
        marks(d, 0);
        for (int r = 0; r < 4; r++) {
            rule(d, SEEN, r, -1, MARK, 0, -1);
        }
        return d;
    }

    private void takeARule() {
        for (int r = 0; r < 4; r++) {
            QuestionDesk d = deskOfFourRules();
            d.head(SEEN, 9, -1);
            due("take(" + r + ")", d.take(r), true);
            due("count(1)", d.count(1), 3);
            due("what follows of the others", d.ask(SEEN, X, -1), 3);
            due("what followed of it", d.holds(SEEN, r, -1), false);
            due("the rule that has begun stays", d.body(MARK, 0, -1), 1);
        }
    }

    private void takeMovesThoseBehind() {
        QuestionDesk d = deskOfFourRules();
        due("take(1)", d.take(1), true);
        due("take(1), which was 2", d.take(1), true);
        due("ask", d.ask(SEEN, X, -1), 2);
        due("the one before stays", d.answer(0), 0);
        due("the last stays", d.answer(1), 3);
        due("the next rule's number", rule(d, SEEN, 8, -1, MARK, 0, -1), 2);
        due("take(0)", d.take(0), true);
        due("take(1), which was the next rule", d.take(1), true);
        due("ask", d.ask(SEEN, X, -1), 1);
        due("the last stays still", d.answer(0), 3);
        due("take of the only one", d.take(0), true);
        due("count(1)", d.count(1), 0);
    }

    private void takeOfNone() {
        QuestionDesk d = desk();
        due("take(0) where there are none", d.take(0), false);
        QuestionDesk four = deskOfFourRules();
        for (int r : new int[] {-1, 4, 5, 29, 30, LEAST, GREATEST}) {
            due("take(" + r + ")", four.take(r), false);
        }
        due("count(1)", four.count(1), 4);
        four.head(SEEN, 9, -1);
        four.body(MARK, 0, -1);
        due("take(4) of one that has begun", four.take(4), false);
        due("which is done then", four.done(), 4);
        due("ask", four.ask(SEEN, X, -1), 5);
    }
}

/** The sentences of promises 9 to 15: a question, and what is asked about it. */
public final class AskingTest extends Sentences {
    public static void main(String[] args) {
        AskingTest t = new AskingTest();
        t.questions();
        t.answers();
        t.facts();
        t.calls();
        t.ofPredicates();
        t.counts();
        t.endOfSection();
        t.end("AskingTest");
    }

    private void questions() {
        in("Promise 9: ask");
        of("A question: how many answers.", this::askCounts);
        of("IllegalArgumentException when there is no such predicate,", this::askOfNoPredicate);
        of("or x, y are not terms.", this::askOfNoTerms);
        of("What is asked below is of the latest question,", this::latestQuestion);
        of("by the facts and rules as they were then.", this::asTheyWereThen);
    }

    private void answers() {
        in("Promise 10: answer");
        of("The i-th answer (from 0), by the first place, then by the second:", this::answersInOrder);
        of("10 times the first one and the second one", this::answersOfTwoPlaces);
        of("(the first one alone, of one place).", this::answersOfOnePlace);
        of("NONE when there is none,", this::noAnswer);
        of("or nothing was asked.", this::answerOfNothing);
    }

    private void facts() {
        in("Promise 11: holds");
        of("Whether a fact is in the model.", this::holdsInTheModel);
        of("IllegalArgumentException when there is no such predicate,", this::holdsOfNoPredicate);
        of("or x, y are not constants.", this::holdsOfNoConstants);
        of("False when nothing was asked.", this::holdsOfNothing);
        in("Promise 12: wanted");
        of("Whether a fact is called for.", this::wantedIfCalledFor);
        of("Throws as holds;", this::wantedThrows);
        of("false when nothing was asked,", this::wantedOfNothing);
        of("or p is of facts.", this::wantedOfFacts);
    }

    private void calls() {
        in("Promise 13: called");
        of("Whether there is a call of p with x and y;", this::calledWithBoth);
        of("-1 for a free place", this::calledFree);
        of("(and of one place for y).", this::calledOfOnePlace);
        of("IllegalArgumentException when there is no such predicate,", this::calledOfNoPredicate);
        of("or x, y are not so.", this::calledWithOthers);
        of("False when nothing was asked.", this::calledOfNothing);
    }

    private void ofPredicates() {
        in("Promise 14: of");
        of("Of predicate p: what = 0 facts of the model,", this::ofModel);
        of("1 facts that are called for", this::ofCalledFor);
        of("(0 of one of facts),", this::ofCalledForOfFacts);
        of("2 calls,", this::ofCalls);
        of("3 patterns.", this::ofPatterns);
        of("NONE when nothing was asked,", this::ofNothing);
        of("for others,", this::ofOthers);
        of("or without such a predicate", this::ofNoPredicate);
        of("(of what was asked).", this::ofLaterPredicate);
    }

    private void counts() {
        in("Promise 15: count");
        of("what = 0 predicates,", this::countPredicates);
        of("1 rules,", this::countRules);
        of("2 facts that are told,", this::countTold);
        of("3 patterns,", this::countPatterns);
        of("4 rules of the rewritten program,", this::countRewritten);
        of("5 calls in all,", this::countCalls);
        of("6 facts called for in all", this::countCalledFor);
        of("(the last four of the latest question;", this::countOfLatestQuestion);
        of("NONE when nothing was asked).", this::countOfNothing);
        of("NONE for others.", this::countOfOthers);
    }

    private void askCounts() {
        QuestionDesk d = pathDesk();
        due("path(X, Y)", d.ask(PATH, X, Y), 4);
        due("path(1, Y)", d.ask(PATH, 1, Y), 2);
        due("path(X, 3)", d.ask(PATH, X, 3), 2);
        due("path(1, 3)", d.ask(PATH, 1, 3), 1);
        due("path(3, 1)", d.ask(PATH, 3, 1), 0);
        due("path(X, X)", d.ask(PATH, X, X), 0);
        due("edge(X, Y)", d.ask(EDGE, X, Y), 3);
        due("mark(X), none is told", d.ask(MARK, X, -1), 0);
        due("seen(X), without a rule", d.ask(SEEN, X, -1), 0);
        marks(d, 0, 9);
        due("mark(X)", d.ask(MARK, LAST_VARIABLE, -1), 2);
        due("mark(9)", d.ask(MARK, 9, -1), 1);
        due("mark(8)", d.ask(MARK, 8, -1), 0);
        allEdges(d);
        due("path(X, Y), all of them", d.ask(PATH, LAST_VARIABLE, X), 100);
        due("path(X, X), all of them", d.ask(PATH, LAST_VARIABLE, LAST_VARIABLE), 10);
    }

    private void askOfNoPredicate() {
        QuestionDesk d = pathDesk();
        noSuchPredicate("ask", d::ask);
        due("the last there is", d.ask(SEEN, X, -1), 0);
    }

    private void askOfNoTerms() {
        QuestionDesk d = pathDesk();
        beyondOfTwo("ask of facts", d::ask, EDGE, 0, LAST_VARIABLE);
        beyondOfTwo("ask of rules", d::ask, PATH, 0, LAST_VARIABLE);
        beyondOfOne("ask of facts", d::ask, MARK, 0, LAST_VARIABLE);
        beyondOfOne("ask of rules", d::ask, SEEN, 0, LAST_VARIABLE);
        secondOfOne("ask of facts", d::ask, MARK);
        secondOfOne("ask of rules", d::ask, SEEN);
    }

    private void latestQuestion() {
        QuestionDesk d = pathDesk();
        rule(d, SEEN, X, -1, MARK, X, -1);
        marks(d, 7);
        d.ask(PATH, X, Y);
        d.ask(SEEN, 7, -1);
        due("answer(0)", d.answer(0), 7);
        due("answer(1)", d.answer(1), -1);
        due("wanted now", d.wanted(SEEN, 7, -1), true);
        due("wanted before", d.wanted(PATH, 1, 2), false);
        due("called now", d.called(SEEN, 7, -1), true);
        due("called before", d.called(PATH, FREE, FREE), false);
        due("of(path, 2)", d.of(PATH, 2), 0);
        due("of(path, 3)", d.of(PATH, 3), 0);
        due("count(5)", d.count(5), 1);
        illegalArgument("a question that throws", () -> d.ask(PATH, X, -1));
        due("answer(0) behind it", d.answer(0), 7);
    }

    private void asTheyWereThen() {
        QuestionDesk d = pathDesk();
        d.ask(PATH, 1, Y);
        d.drop(EDGE, 1, 2);
        d.fact(EDGE, 2, 1);
        d.take(1);
        due("an edge that is dropped", d.holds(EDGE, 1, 2), true);
        due("an edge that is told", d.holds(EDGE, 2, 1), false);
        due("what followed by a rule that is taken", d.holds(PATH, 1, 3), true);
        due("a call by it", d.called(PATH, 2, FREE), true);
        due("what it was wanted for", d.wanted(PATH, 2, 3), true);
        due("an answer by it", d.answer(1), 13);
        due("rewritten rules", d.count(4), 3);
        due("asked again", d.ask(PATH, 1, Y), 0);
        due("an edge that is dropped, asked again", d.holds(EDGE, 1, 2), false);
        due("an edge that is told, asked again", d.holds(EDGE, 2, 1), true);
        due("no call by it, asked again", d.called(PATH, 2, FREE), false);
        due("rewritten rules, asked again", d.count(4), 1);
    }

    private void answersInOrder() {
        QuestionDesk d = desk();
        edges(d, 99, 0, 21, 12, 9, 20, 90);
        d.ask(EDGE, X, Y);
        int[] sorted = {0, 9, 12, 20, 21, 90, 99};
        for (int i = 0; i < sorted.length; i++) {
            due("answer(" + i + ")", d.answer(i), sorted[i]);
        }
        due("answer(0) again", d.answer(0), 0);
        d.ask(EDGE, Y, X);
        due("answer(1), whatever the variables are", d.answer(1), 9);
    }

    private void answersOfTwoPlaces() {
        QuestionDesk d = desk();
        allEdges(d);
        d.ask(EDGE, X, Y);
        for (int i = 0; i < 100; i++) {
            due("answer(" + i + ")", d.answer(i), i);
        }
        d.ask(EDGE, X, X);
        due("answer(0) of the same variable", d.answer(0), 0);
        due("answer(9) of the same variable", d.answer(9), 99);
        d.ask(EDGE, 0, X);
        due("answer(3) behind a constant", d.answer(3), 3);
        d.ask(EDGE, X, 7);
        due("answer(3) before a constant", d.answer(3), 37);
        d.ask(EDGE, 4, 0);
        due("answer(0) of two constants", d.answer(0), 40);
    }

    private void answersOfOnePlace() {
        QuestionDesk d = desk();
        rule(d, SEEN, X, -1, MARK, X, -1);
        marks(d, 9, 0, 4);
        d.ask(MARK, X, -1);
        due("answer(0)", d.answer(0), 0);
        due("answer(1)", d.answer(1), 4);
        due("answer(2)", d.answer(2), 9);
        d.ask(SEEN, 9, -1);
        due("answer(0) of rules", d.answer(0), 9);
    }

    private void noAnswer() {
        QuestionDesk d = desk();
        d.ask(EDGE, X, Y);
        due("answer(0) of none", d.answer(0), QuestionDesk.NONE);
        edges(d, 12, 34);
        d.ask(EDGE, X, Y);
        for (int i : new int[] {-1, 2, 3, 100, LEAST, GREATEST}) {
            due("answer(" + i + ") of two", d.answer(i), QuestionDesk.NONE);
        }
        allEdges(d);
        d.ask(EDGE, X, Y);
        due("answer(100) of a hundred", d.answer(100), QuestionDesk.NONE);
        d.ask(EDGE, 1, 1);
        due("answer(1) of one, behind a hundred", d.answer(1), QuestionDesk.NONE);
        marks(d, 3);
        d.ask(MARK, X, -1);
        due("answer(1) of one place", d.answer(1), QuestionDesk.NONE);
    }

    private void answerOfNothing() {
        QuestionDesk d = pathDesk();
        for (int i : new int[] {0, 1, -1, LEAST, GREATEST}) {
            due("answer(" + i + ")", d.answer(i), QuestionDesk.NONE);
        }
    }

    private void holdsInTheModel() {
        QuestionDesk d = pathDesk();
        marks(d, 0, 9);
        rule(d, SEEN, X, -1, MARK, X, -1);
        d.ask(PATH, 5, Y);
        due("told", d.holds(EDGE, 1, 2), true);
        due("not told", d.holds(EDGE, 2, 1), false);
        due("followed, though no call asks for it", d.holds(PATH, 1, 3), true);
        due("not followed", d.holds(PATH, 3, 1), false);
        due("of one place, the first", d.holds(SEEN, 0, -1), true);
        due("of one place, the last", d.holds(SEEN, 9, -1), true);
        due("of one place, not followed", d.holds(SEEN, 3, -1), false);
        due("of one place, told", d.holds(MARK, 9, -1), true);
        edges(d, 0, 99);
        d.ask(MARK, 0, -1);
        due("by a question of facts, the first", d.holds(PATH, 0, 0), true);
        due("by a question of facts, the last", d.holds(PATH, 9, 9), true);
        int late = d.predicate(1, true);
        due("of a predicate behind the question", d.holds(late, 0, -1), false);
    }

    private void holdsOfNoPredicate() {
        QuestionDesk d = pathDesk();
        noSuchPredicate("holds, nothing was asked", d::holds);
        d.ask(PATH, X, Y);
        noSuchPredicate("holds", d::holds);
    }

    private void constantsAlone(String call, QuestionDesk d, AtomCall on) {
        for (int again = 0; again < 2; again++) {
            beyondOfTwo(call, on, EDGE, 0, LAST_CONSTANT);
            beyondOfTwo(call, on, PATH, 0, LAST_CONSTANT);
            beyondOfOne(call, on, MARK, 0, LAST_CONSTANT);
            beyondOfOne(call, on, SEEN, 0, LAST_CONSTANT);
            secondOfOne(call, on, MARK);
            secondOfOne(call, on, SEEN);
            // first where nothing was asked, then of a question
            d.ask(PATH, X, Y);
        }
    }

    private void holdsOfNoConstants() {
        QuestionDesk d = pathDesk();
        constantsAlone("holds", d, d::holds);
    }

    private void holdsOfNothing() {
        QuestionDesk d = pathDesk();
        marks(d, 1);
        due("of facts", d.holds(EDGE, 1, 2), false);
        due("of facts, one place", d.holds(MARK, 1, -1), false);
        due("of rules", d.holds(PATH, 1, 2), false);
        d.ask(MARK, 1, -1);
        due("as soon as a question was asked", d.holds(EDGE, 1, 2), true);
    }

    private void wantedIfCalledFor() {
        QuestionDesk d = pathDesk();
        d.ask(PATH, 1, Y);
        due("by the question", d.wanted(PATH, 1, 3), true);
        due("by another call", d.wanted(PATH, 2, 3), true);
        due("in the model, but not called for", d.wanted(PATH, 5, 6), false);
        due("called, but not in the model", d.wanted(PATH, 1, 1), false);
        rule(d, SEEN, X, -1, EDGE, X, Y);
        d.ask(SEEN, 1, -1);
        due("of one place", d.wanted(SEEN, 1, -1), true);
        due("of one place, not called for", d.wanted(SEEN, 2, -1), false);
        d.ask(SEEN, X, -1);
        due("of one place, free", d.wanted(SEEN, 2, -1), true);
        due("of one place, not in the model", d.wanted(SEEN, 3, -1), false);
        int late = d.predicate(2, true);
        due("of a predicate behind the question", d.wanted(late, 1, 2), false);
    }

    private void wantedThrows() {
        QuestionDesk d = pathDesk();
        noSuchPredicate("wanted, nothing was asked", d::wanted);
        constantsAlone("wanted", d, d::wanted);
        noSuchPredicate("wanted", d::wanted);
    }

    private void wantedOfNothing() {
        QuestionDesk d = pathDesk();
        due("of rules", d.wanted(PATH, 1, 2), false);
        due("of rules, one place", d.wanted(SEEN, 1, -1), false);
        due("of facts", d.wanted(EDGE, 1, 2), false);
        d.ask(PATH, X, Y);
        due("as soon as a question was asked", d.wanted(PATH, 1, 2), true);
    }

    private void wantedOfFacts() {
        QuestionDesk d = pathDesk();
        marks(d, 1);
        d.ask(EDGE, 1, 2);
        due("of a question of facts", d.wanted(EDGE, 1, 2), false);
        d.ask(MARK, 1, -1);
        due("of a question of facts, one place", d.wanted(MARK, 1, -1), false);
        d.ask(PATH, 1, Y);
        due("in a body", d.wanted(EDGE, 1, 2), false);
    }

    private void calledWithBoth() {
        QuestionDesk d = pathDesk();
        d.ask(PATH, 1, 3);
        due("the question", d.called(PATH, 1, 3), true);
        due("by a rule", d.called(PATH, 2, 3), true);
        due("where no fact is", d.called(PATH, 3, 3), true);
        due("of a fact that none calls", d.called(PATH, 5, 6), false);
        due("turned round", d.called(PATH, 3, 1), false);
        due("of facts", d.called(EDGE, 1, 2), false);
        d.ask(PATH, 0, 9);
        due("the first and the last constant", d.called(PATH, 0, 9), true);
        int late = d.predicate(2, true);
        due("of a predicate behind the question", d.called(late, 0, 9), false);
    }

    private void calledFree() {
        QuestionDesk d = pathDesk();
        d.ask(PATH, 1, Y);
        due("the second", d.called(PATH, 1, -1), true);
        due("the second, by a rule", d.called(PATH, 2, -1), true);
        due("the second, of another constant", d.called(PATH, 5, -1), false);
        due("the second, bound", d.called(PATH, 1, 2), false);
        due("the first", d.called(PATH, -1, 1), false);
        due("both", d.called(PATH, -1, -1), false);
        due("of facts", d.called(EDGE, 1, -1), false);
        d.ask(PATH, X, 3);
        due("the first", d.called(PATH, -1, 3), true);
        due("the first, of another constant", d.called(PATH, -1, 2), false);
        due("both", d.called(PATH, -1, -1), false);
        d.ask(PATH, X, X);
        due("both", d.called(PATH, -1, -1), true);
        due("of facts, both", d.called(EDGE, -1, -1), false);
    }

    private void calledOfOnePlace() {
        QuestionDesk d = desk();
        d.ask(SEEN, 9, -1);
        due("bound", d.called(SEEN, 9, -1), true);
        due("free", d.called(SEEN, -1, -1), false);
        due("another constant", d.called(SEEN, 0, -1), false);
        d.ask(SEEN, X, -1);
        due("bound", d.called(SEEN, 9, -1), false);
        due("free", d.called(SEEN, -1, -1), true);
        secondOfOne("called", d::called, SEEN);
        secondOfOne("called", d::called, MARK);
    }

    private void calledOfNoPredicate() {
        QuestionDesk d = pathDesk();
        noSuchPredicate("called, nothing was asked", d::called);
        d.ask(PATH, X, Y);
        noSuchPredicate("called", d::called);
    }

    private void calledWithOthers() {
        QuestionDesk d = pathDesk();
        for (int again = 0; again < 2; again++) {
            beyondOfTwo("called of facts", d::called, EDGE, FREE, LAST_CONSTANT);
            beyondOfTwo("called of rules", d::called, PATH, FREE, LAST_CONSTANT);
            beyondOfOne("called of facts", d::called, MARK, FREE, LAST_CONSTANT);
            beyondOfOne("called of rules", d::called, SEEN, FREE, LAST_CONSTANT);
            d.ask(PATH, X, Y);
        }
    }

    private void calledOfNothing() {
        QuestionDesk d = pathDesk();
        due("free", d.called(PATH, -1, -1), false);
        due("bound", d.called(PATH, 1, 2), false);
        due("of one place", d.called(SEEN, -1, -1), false);
        d.ask(PATH, 1, 2);
        due("as soon as a question was asked", d.called(PATH, 1, 2), true);
    }

    private void ofModel() {
        QuestionDesk d = pathDesk();
        d.ask(PATH, 5, Y);
        due("edges", d.of(EDGE, 0), 3);
        due("paths", d.of(PATH, 0), 4);
        due("marks", d.of(MARK, 0), 0);
        marks(d, 0, 1, 2, 3, 4, 5, 6, 7, 8, 9);
        allEdges(d);
        due("marks that were told since", d.of(MARK, 0), 0);
        d.ask(SEEN, 1, -1);
        due("all marks", d.of(MARK, 0), 10);
        due("all edges", d.of(EDGE, 0), 100);
        due("all paths", d.of(PATH, 0), 100);
        due("seen", d.of(SEEN, 0), 0);
    }

    private void ofCalledFor() {
        QuestionDesk d = pathDesk();
        rule(d, SEEN, X, -1, EDGE, X, Y);
        d.ask(PATH, 1, Y);
        due("paths", d.of(PATH, 1), 3);
        due("seen, which is not called", d.of(SEEN, 1), 0);
        d.ask(PATH, 7, Y);
        due("paths, where none is", d.of(PATH, 1), 0);
        d.ask(SEEN, X, -1);
        due("seen", d.of(SEEN, 1), 3);
        allEdges(d);
        d.ask(PATH, X, Y);
        due("all paths, each by many calls", d.of(PATH, 1), 100);
        d.ask(PATH, X, 0);
        due("all paths to 0", d.of(PATH, 1), 10);
    }

    private void ofCalledForOfFacts() {
        QuestionDesk d = pathDesk();
        d.ask(EDGE, X, Y);
        due("of the question's", d.of(EDGE, 1), 0);
        d.ask(PATH, 1, Y);
        due("in a body", d.of(EDGE, 1), 0);
        due("without facts", d.of(MARK, 1), 0);
    }

    private void ofCalls() {
        QuestionDesk d = pathDesk();
        d.ask(PATH, X, 3);
        due("paths", d.of(PATH, 2), 4);
        due("edges", d.of(EDGE, 2), 0);
        due("seen", d.of(SEEN, 2), 0);
        d.ask(SEEN, X, -1);
        due("seen, without a rule", d.of(SEEN, 2), 1);
        allEdges(d);
        d.ask(PATH, X, Y);
        due("paths over all edges", d.of(PATH, 2), 11);
        rule(d, PATH, X, Z, EDGE, X, Y, EDGE, Z, 16, PATH, Y, Z);
        rule(d, PATH, X, Z, EDGE, Z, Y, PATH, LAST_VARIABLE, Y, EDGE, X, 16);
        d.ask(PATH, X, Y);
        due("all calls that there can be", d.of(PATH, 2), 121);
    }

    private void ofPatterns() {
        QuestionDesk d = pathDesk();
        d.ask(PATH, X, 3);
        due("paths", d.of(PATH, 3), 2);
        due("edges", d.of(EDGE, 3), 0);
        due("seen", d.of(SEEN, 3), 0);
        rule(d, SEEN, X, -1, PATH, X, Y, PATH, Z, X, PATH, X, X);
        d.ask(SEEN, 1, -1);
        due("paths behind seen", d.of(PATH, 3), 3);
        due("seen", d.of(SEEN, 3), 1);
        rule(d, SEEN, X, -1, PATH, Y, Z, MARK, X, -1);
        d.ask(SEEN, 1, -1);
        due("all that there can be", d.of(PATH, 3), 4);
    }

    private void ofNothing() {
        QuestionDesk d = pathDesk();
        for (int what = -1; what < 5; what++) {
            due("of(path, " + what + ")", d.of(PATH, what), QuestionDesk.NONE);
            due("of(edge, " + what + ")", d.of(EDGE, what), QuestionDesk.NONE);
        }
    }

    private void ofOthers() {
        QuestionDesk d = pathDesk();
        d.ask(PATH, X, Y);
        for (int what : new int[] {-1, 4, 5, 6, LEAST, GREATEST}) {
            due("of(path, " + what + ")", d.of(PATH, what), QuestionDesk.NONE);
            due("of(edge, " + what + ")", d.of(EDGE, what), QuestionDesk.NONE);
        }
    }

    private void ofNoPredicate() {
        QuestionDesk d = pathDesk();
        d.ask(PATH, X, Y);
        for (int p : new int[] {-1, PREDICATES, 9, 10, LEAST, GREATEST}) {
            for (int what = 0; what < 4; what++) {
                due("of(" + p + ", " + what + ")", d.of(p, what), QuestionDesk.NONE);
            }
        }
        due("the last there is", d.of(SEEN, 0), 0);
    }

    private void ofLaterPredicate() {
        QuestionDesk d = pathDesk();
        d.ask(PATH, X, Y);
        int late = d.predicate(1, true);
        for (int what = 0; what < 4; what++) {
            due("of(late, " + what + ")", d.of(late, what), QuestionDesk.NONE);
        }
        d.ask(PATH, X, Y);
        for (int what = 0; what < 4; what++) {
            due("asked again, of(late, " + what + ")", d.of(late, what), 0);
        }
    }

    private void countPredicates() {
        QuestionDesk d = new QuestionDesk();
        due("none", d.count(0), 0);
        for (int p = 0; p < 12; p++) {
            d.predicate(1 + p % 2, p % 3 == 0);
            due("behind " + (p + 1), d.count(0), Math.min(p + 1, 10));
            d.ask(0, X, -1);
        }
    }

    private void countRules() {
        QuestionDesk d = desk();
        due("none", d.count(1), 0);
        for (int r = 0; r < 32; r++) {
            rule(d, SEEN, X, -1, MARK, X, -1);
            due("behind " + (r + 1), d.count(1), Math.min(r + 1, 30));
        }
        d.ask(SEEN, X, -1);
        d.take(0);
        due("behind a question and a take", d.count(1), 29);
        d.head(SEEN, X, -1);
        d.body(MARK, X, -1);
        due("without one that has begun", d.count(1), 29);
    }

    private void countTold() {
        QuestionDesk d = pathDesk();
        due("three", d.count(2), 3);
        d.ask(PATH, X, Y);
        due("without what follows", d.count(2), 3);
        edges(d, 12, 13);
        marks(d, 3);
        due("two more, behind a question", d.count(2), 5);
        d.drop(EDGE, 1, 2);
        due("one less", d.count(2), 4);
        allEdges(d);
        due("all edges", d.count(2), 101);
    }

    private void countPatterns() {
        QuestionDesk d = pathDesk();
        d.ask(PATH, X, 3);
        due("of path", d.count(3), 2);
        rule(d, SEEN, X, -1, PATH, X, Y, PATH, Y, X);
        d.ask(SEEN, X, -1);
        due("of seen and path", d.count(3), 4);
    }

    private void countRewritten() {
        QuestionDesk d = pathDesk();
        d.ask(PATH, X, 3);
        due("of path", d.count(4), 6);
        rule(d, SEEN, X, -1, PATH, X, Y, PATH, Y, X);
        d.ask(SEEN, X, -1);
        due("of seen and path", d.count(4), 12);
        d.ask(SEEN, 1, -1);
        due("of seen and path, bound", d.count(4), 9);
    }

    private void countCalls() {
        QuestionDesk d = pathDesk();
        d.ask(PATH, X, 3);
        due("of path", d.count(5), 4);
        rule(d, SEEN, X, -1, PATH, X, Y);
        d.ask(SEEN, X, -1);
        due("of seen and path", d.count(5), 5);
    }

    private void countCalledFor() {
        QuestionDesk d = pathDesk();
        d.ask(PATH, X, 3);
        due("of path", d.count(6), 2);
        rule(d, SEEN, X, -1, PATH, X, Y);
        d.ask(SEEN, X, -1);
        due("of seen and path", d.count(6), 7);
        d.ask(PATH, 7, Y);
        due("where none is", d.count(6), 0);
    }

    private void countOfLatestQuestion() {
        QuestionDesk d = pathDesk();
        d.ask(PATH, X, 3);
        d.ask(PATH, 1, Y);
        d.fact(EDGE, 3, 4);
        d.take(0);
        int[] due = {1, 3, 3, 3};
        for (int what = 3; what < 7; what++) {
            due("count(" + what + ")", d.count(what), due[what - 3]);
        }
        d.ask(EDGE, X, Y);
        for (int what = 3; what < 7; what++) {
            due("count(" + what + ") of a question of facts", d.count(what), 0);
        }
    }

    private void countOfNothing() {
        QuestionDesk d = pathDesk();
        for (int what = 3; what < 7; what++) {
            due("count(" + what + ")", d.count(what), QuestionDesk.NONE);
        }
    }

    private void countOfOthers() {
        QuestionDesk d = pathDesk();
        for (int again = 0; again < 2; again++) {
            for (int what : new int[] {-1, 7, 8, LEAST, GREATEST}) {
                due("count(" + what + ")", d.count(what), QuestionDesk.NONE);
            }
            // first where nothing was asked, then of a question
            d.ask(PATH, X, Y);
        }
    }
}

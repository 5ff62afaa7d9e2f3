import java.io.IOException;
import java.io.UncheckedIOException;
import java.nio.file.Files;
import java.nio.file.Path;

/**
 * Goes through the document with a test for each of its sentences, or for each part of one that has a case of its
 * own. Words that no test is of, and words that the document does not have, are faults too.
 */
abstract class Sentences extends Checks {
    static final int EDGE = 0;
    static final int PATH = 1;
    static final int MARK = 2;
    static final int SEEN = 3;
    /** How many predicates desk() has. */
    static final int PREDICATES = 4;
    static final int FREE = -1;
    static final int X = 10;
    static final int Y = 11;
    static final int Z = 12;
    static final int LAST_VARIABLE = 17;
    static final int LAST_CONSTANT = 9;
    static final int LEAST = Integer.MIN_VALUE;
    static final int GREATEST = Integer.MAX_VALUE;

    private static final Path DOCUMENT = Path.of("../shared/DOC.md");

    private final String document = read();
    private String heading = "";
    private String section = "";
    private int tested = 0;

    interface AtomCall {
        void on(int p, int x, int y);
    }

    private static String read() {
        try {
            return Files.readString(DOCUMENT);
        } catch (IOException e) {
            throw new UncheckedIOException(e);
        }
    }

    /** The tests that follow are of the section with this heading. */
    void in(String heading) {
        endOfSection();
        this.heading = heading;
        tested = 0;
        section = "";
        for (String part : document.split("(?m)^## ")) {
            if (part.startsWith(heading + "\n")) {
                // the signature in front is what FaceTest looks at
                section = part.substring(heading.length()).strip().replaceFirst("^`[^`]*`:", "").replaceAll("\\s+", " ");
            }
        }
        under(heading + ": ");
        due("stands in the document", !section.isEmpty(), true);
    }

    /** The test of the next words of the section. */
    void of(String words, Runnable test) {
        under(heading + ", \"" + words + "\": ");
        int start = section.indexOf(words, tested);
        boolean standsNext = start >= 0 && section.substring(tested, start).isBlank();
        due("stands next in the document", standsNext, true);
        tested = standsNext ? start + words.length() : tested;
        int before = checked();
        due("its test", thrownBy(test), "nothing");
        due("has a check", checked() > before + 1, true);
    }

    void endOfSection() {
        under(heading + ": ");
        due("words without a test", section.substring(tested).strip(), "");
    }

    /** Edge and mark are of facts, path and seen of rules; edge and path have two places. */
    static QuestionDesk desk() {
        QuestionDesk d = new QuestionDesk();
        d.predicate(2, false);
        d.predicate(2, true);
        d.predicate(1, false);
        d.predicate(1, true);
        return d;
    }

    /** Paths over edges, of which two follow each other and one stands apart. */
    static QuestionDesk pathDesk() {
        QuestionDesk d = desk();
        rule(d, PATH, X, Y, EDGE, X, Y);
        rule(d, PATH, X, Z, EDGE, X, Y, PATH, Y, Z);
        edges(d, 12, 23, 56);
        return d;
    }

    /** A rule of numbers: the head's predicate and terms, then those of each atom of the body. */
    static int rule(QuestionDesk d, int... atoms) {
        d.head(atoms[0], atoms[1], atoms[2]);
        for (int i = 3; i < atoms.length; i += 3) {
            d.body(atoms[i], atoms[i + 1], atoms[i + 2]);
        }
        return d.done();
    }

    static void edges(QuestionDesk d, int... edges) {
        for (int edge : edges) {
            d.fact(EDGE, edge / 10, edge % 10);
        }
    }

    static void allEdges(QuestionDesk d) {
        for (int edge = 0; edge < 100; edge++) {
            edges(d, edge);
        }
    }

    static void marks(QuestionDesk d, int... marks) {
        for (int mark : marks) {
            d.fact(MARK, mark, -1);
        }
    }

    void noSuchPredicate(String call, AtomCall on) {
        for (int p : new int[] {-1, PREDICATES, 9, 10, LEAST, GREATEST}) {
            illegalArgument(call + "(" + p + ", 0, 0)", () -> on.on(p, 0, 0));
            illegalArgument(call + "(" + p + ", 0, -1)", () -> on.on(p, 0, -1));
        }
    }

    /** Each place of a predicate of two has low .. high: what is just beyond them, and far. */
    void beyondOfTwo(String call, AtomCall on, int p, int low, int high) {
        for (int wrong : new int[] {low - 1, high + 1, LEAST, GREATEST}) {
            illegalArgument(call + "(" + p + ", " + wrong + ", 0)", () -> on.on(p, wrong, 0));
            illegalArgument(call + "(" + p + ", 0, " + wrong + ")", () -> on.on(p, 0, wrong));
            illegalArgument(call + "(" + p + ", " + wrong + ", " + wrong + ")", () -> on.on(p, wrong, wrong));
        }
        within(call, on, p, new int[] {low, high}, new int[] {low, high});
    }

    /** The first place of a predicate of one has low .. high. */
    void beyondOfOne(String call, AtomCall on, int p, int low, int high) {
        for (int wrong : new int[] {low - 1, high + 1, LEAST, GREATEST}) {
            illegalArgument(call + "(" + p + ", " + wrong + ", -1)", () -> on.on(p, wrong, -1));
        }
        within(call, on, p, new int[] {low, high}, new int[] {-1});
    }

    /** The second place of a predicate of one has nothing but -1. */
    void secondOfOne(String call, AtomCall on, int p) {
        for (int wrong : new int[] {-2, 0, 1, 9, 10, 17, 18, LEAST, GREATEST}) {
            illegalArgument(call + "(" + p + ", 0, " + wrong + ")", () -> on.on(p, 0, wrong));
        }
        within(call, on, p, new int[] {0}, new int[] {-1});
    }

    private void within(String call, AtomCall on, int p, int[] firsts, int[] seconds) {
        for (int x : firsts) {
            for (int y : seconds) {
                due(call + "(" + p + ", " + x + ", " + y + ")", thrownBy(() -> on.on(p, x, y)), "nothing");
            }
        }
    }
}

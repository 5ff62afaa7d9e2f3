import java.io.IOException;
import java.lang.reflect.Constructor;
import java.lang.reflect.Field;
import java.lang.reflect.Method;
import java.lang.reflect.Modifier;
import java.nio.file.Files;
import java.nio.file.Path;
import java.util.Arrays;
import java.util.List;
import java.util.Set;
import java.util.TreeSet;
import java.util.regex.Pattern;

/** The public face of the document, and the rules of LANGUAGE.md that a look at the file can tell. */
public final class FaceTest {
    private static final Path SOURCE = Path.of("src/main/java/QuestionDesk.java");
    private static final Set<String> FACE = Set.of(
        "int predicate(int, boolean) IllegalArgumentException",
        "boolean fact(int, int, int) IllegalArgumentException",
        "boolean drop(int, int, int) IllegalArgumentException",
        "void head(int, int, int) IllegalArgumentException",
        "int body(int, int, int) IllegalStateException IllegalArgumentException",
        "int done() IllegalStateException",
        "boolean take(int)",
        "int ask(int, int, int) IllegalArgumentException",
        "int answer(int)",
        "boolean holds(int, int, int) IllegalArgumentException",
        "boolean wanted(int, int, int) IllegalArgumentException",
        "boolean called(int, int, int) IllegalArgumentException",
        "int of(int, int)",
        "int count(int)");
    private static final List<String> FORBIDDEN = List.of(
        "->", "::", "\\bfinally\\b", "\\bcatch\\b", "\\bsynchronized\\b", "\\bassert\\b", "Exact\\(",
        "\\bRandom\\b", "\\bThread\\b", "\\bSystem\\.(?!arraycopy)", "java\\.io", "java\\.time", "\\bequals\\(");

    private static final Checks checks = new Checks();

    public static void main(String[] args) throws IOException {
        face();
        source(Files.readString(SOURCE));
        checks.end("FaceTest");
    }

    private static void face() {
        Class<QuestionDesk> c = QuestionDesk.class;
        checks.due("modifiers", Modifier.toString(c.getModifiers()), "public final");
        Set<String> methods = new TreeSet<>();
        Set<String> names = new TreeSet<>();
        for (Method m : c.getDeclaredMethods()) {
            if (!Modifier.isPrivate(m.getModifiers())) {
                methods.add(signature(m));
                names.add(m.getName());
            }
        }
        checks.due("methods", methods, new TreeSet<>(FACE));
        for (Method m : c.getDeclaredMethods()) {
            boolean hides = Modifier.isPrivate(m.getModifiers()) && names.contains(m.getName());
            checks.due("private method with a public one's name: " + m, hides, false);
        }
        Constructor<?>[] constructors = c.getDeclaredConstructors();
        checks.due("constructors", constructors.length, 1);
        checks.due("constructor", constructors[0].toString(), "public QuestionDesk()");
        for (Field f : c.getDeclaredFields()) {
            String want = f.getName().equals("NONE") ? "public static final" : "private";
            checks.due("field " + f.getName(), Modifier.toString(f.getModifiers()).startsWith(want), true);
        }
        for (Class<?> inside : c.getDeclaredClasses()) {
            checks.due("static " + inside, Modifier.isStatic(inside.getModifiers()), true);
            checks.due("hidden " + inside, Modifier.isPublic(inside.getModifiers()), false);
        }
    }

    private static String signature(Method m) {
        StringBuilder text = new StringBuilder(m.getReturnType() + " " + m.getName());
        String parameters = Arrays.toString(m.getParameterTypes());
        text.append("(").append(parameters, 1, parameters.length() - 1).append(")");
        for (Class<?> e : m.getExceptionTypes()) {
            text.append(" ").append(e.getSimpleName());
        }
        return text.toString();
    }

    private static void source(String text) {
        for (String forbidden : FORBIDDEN) {
            checks.due("source has " + forbidden, Pattern.compile(forbidden).matcher(text).find(), false);
        }
        for (String line : text.split("\n")) {
            boolean isImport = line.startsWith("import ");
            checks.due(line, isImport && !line.equals("import java.util.ArrayList;"), false);
        }
        checks.due("package line", Pattern.compile("(?m)^package ").matcher(text).find(), false);
    }
}

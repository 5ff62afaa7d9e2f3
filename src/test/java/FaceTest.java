import java.io.IOException;
import java.lang.reflect.Constructor;
import java.lang.reflect.Executable;
import java.lang.reflect.Field;
import java.lang.reflect.Method;
import java.lang.reflect.Modifier;
import java.nio.file.Files;
import java.nio.file.Path;
import java.util.Arrays;
import java.util.List;
import java.util.Set;
import java.util.TreeSet;
import java.util.regex.Matcher;
import java.util.regex.Pattern;

/** The public face of the document, and the rules of LANGUAGE.md that a look at the file can tell. */
public final class FaceTest {
    private static final Path SOURCE = Path.of("src/main/java/QuestionDesk.java");
    private static final Path DOCUMENT = Path.of("../shared/DOC.md");
    private static final int PROMISES = 15;
    private static final List<String> FORBIDDEN = List.of(
        "->", "::", "\\bfinally\\b", "\\bcatch\\b", "\\bsynchronized\\b", "\\bassert\\b", "Exact\\(",
        "\\bRandom\\b", "\\bThread\\b", "\\bSystem\\.(?!arraycopy)", "java\\.io", "java\\.time", "\\bequals\\(");

    private static final Checks checks = new Checks();

    public static void main(String[] args) throws IOException {
        String document = Files.readString(DOCUMENT);
        Set<String> face = faceOf(document);
        classAsWritten(document);
        members(face);
        promises(document, face);
        inside();
        source(Files.readString(SOURCE));
        checks.end("FaceTest");
    }

    private static String block(String document) {
        int start = document.indexOf("```java\n");
        int end = document.indexOf("```", start + 1);
        checks.due("the document's face begins and ends", start >= 0 && end > start, true);
        return document.substring(start, end);
    }

    private static Set<String> faceOf(String document) {
        Set<String> face = new TreeSet<>();
        for (String line : block(document).split("\n")) {
            if (line.startsWith("    public ")) {
                face.add(withoutNames(line.strip().replaceFirst(";$", "")));
            }
        }
        return face;
    }

    private static String withoutNames(String signature) {
        return signature.replaceAll("\\b(int|boolean) \\w+(?=[,)])", "$1");
    }

    private static void classAsWritten(String document) {
        boolean isWritten = block(document).contains("public final class QuestionDesk {");
        checks.due("the document's class", isWritten, true);
        checks.due("modifiers", Modifier.toString(QuestionDesk.class.getModifiers()), "public final");
    }

    /** What is not private is what the document's face has, and its names are for the public methods alone. */
    private static void members(Set<String> face) {
        Set<String> members = new TreeSet<>();
        Set<String> names = new TreeSet<>();
        for (Method m : QuestionDesk.class.getDeclaredMethods()) {
            if (!Modifier.isPrivate(m.getModifiers())) {
                members.add(signature(m, m.getReturnType() + " " + m.getName()));
                names.add(m.getName());
            }
        }
        for (Constructor<?> c : QuestionDesk.class.getDeclaredConstructors()) {
            members.add(signature(c, c.getName()));
        }
        for (Field f : QuestionDesk.class.getDeclaredFields()) {
            if (!Modifier.isPrivate(f.getModifiers())) {
                String type = Modifier.toString(f.getModifiers()) + " " + f.getType();
                members.add(type + " " + f.getName() + " = " + QuestionDesk.NONE);
            }
        }
        checks.due("The public face: the class", members, face);
        for (Method m : QuestionDesk.class.getDeclaredMethods()) {
            boolean hides = Modifier.isPrivate(m.getModifiers()) && names.contains(m.getName());
            checks.due("private method with a public one's name: " + m, hides, false);
        }
    }

    private static String signature(Executable e, String name) {
        String parameters = Arrays.toString(e.getParameterTypes());
        StringBuilder text = new StringBuilder(Modifier.toString(e.getModifiers())).append(" ").append(name);
        text.append("(").append(parameters, 1, parameters.length() - 1).append(")");
        String before = " throws ";
        for (Class<?> thrown : e.getExceptionTypes()) {
            text.append(before).append(thrown.getSimpleName());
            before = ", ";
        }
        return text.toString();
    }

    /** The signature that each promise begins with is the one of the face. */
    private static void promises(String document, Set<String> face) {
        Matcher promise = Pattern.compile("(?m)^## Promise (\\d+): .*\\s+`([^`]*)`:").matcher(document);
        int found = 0;
        while (promise.find()) {
            found++;
            String signature = "public " + withoutNames(promise.group(2));
            checks.due("promise " + promise.group(1) + " is of the face", face.contains(signature), true);
        }
        checks.due("promises", found, PROMISES);
    }

    private static void inside() {
        for (Class<?> inside : QuestionDesk.class.getDeclaredClasses()) {
            checks.due("static " + inside, Modifier.isStatic(inside.getModifiers()), true);
            boolean isHidden = !Modifier.isPublic(inside.getModifiers()) && !Modifier.isProtected(inside.getModifiers());
            checks.due("hidden " + inside, isHidden, true);
        }
    }

    private static void source(String text) {
        for (String forbidden : FORBIDDEN) {
            checks.due("source has " + forbidden, Pattern.compile(forbidden).matcher(text).find(), false);
        }
        for (String line : text.split("\n")) {
            boolean isImport = line.startsWith("import ");
            checks.due(line, isImport && !line.equals("import java.util.ArrayList;"), false);
        }
        checks.due("package line", Pattern.compile("(?m)^package ").matcher(text).find(), false);
    }
}

import java.io.IOException;
import java.lang.reflect.Method;
import java.lang.reflect.Modifier;
import java.net.URL;
import java.net.URLClassLoader;
import java.nio.file.DirectoryStream;
import java.nio.file.Files;
import java.nio.file.Path;
import java.util.List;
import java.util.regex.Matcher;
import java.util.regex.Pattern;
import javax.tools.ToolProvider;

/** What README.md says is so: its program answers what stands behind each call, and all that it names is there. */
public final class ReadmeTest {
    private static final Path TESTS = Path.of("src/test/java");
    private static final String PROGRAM = "ReadmeProgram";
    /** A statement, what it answers, and why. */
    private static final Pattern ANSWERED = Pattern.compile("(int \\w+ = )?(desk\\..*);\\s*// (-?\\w+)(: .*)?");

    private static final Checks checks = new Checks();

    public static void main(String[] args) throws IOException, ReflectiveOperationException {
        checks.under("README.md: ");
        String readme = Files.readString(Path.of("README.md"));
        program(readme);
        allCalls(readme);
        allTests(readme);
        allFiles(readme);
        checks.end("ReadmeTest");
    }

    private static void program(String readme) throws IOException, ReflectiveOperationException {
        Path folder = Files.createTempDirectory("readme");
        Path source = folder.resolve(PROGRAM + ".java");
        Path compiled = folder.resolve(PROGRAM + ".class");
        try {
            Files.writeString(source, programOf(readme));
            String[] options = {"-cp", System.getProperty("java.class.path"), "-d", folder.toString(), source.toString()};
            int exit = ToolProvider.getSystemJavaCompiler().run(null, null, null, options);
            checks.due("javac of its program", exit, 0);
            if (exit == 0) {
                compareAnswers(folder);
            }
        } finally {
            Files.deleteIfExists(compiled);
            Files.deleteIfExists(source);
            Files.delete(folder);
        }
    }

    private static void compareAnswers(Path folder) throws IOException, ReflectiveOperationException {
        try (URLClassLoader loader = new URLClassLoader(new URL[] {folder.toUri().toURL()})) {
            Object answers = loader.loadClass(PROGRAM).getMethod("answers").invoke(null);
            for (Object answer : (List<?>) answers) {
                String[] parts = (String[]) answer;
                checks.due(parts[0], parts[1], parts[2].equals("NONE") ? "-1" : parts[2]);
            }
            checks.due("has answers", ((List<?>) answers).isEmpty(), false);
        }
    }

    /** The README's pieces of code as one class that lists, of each call with an answer, the call, what came and what is due. */
    private static String programOf(String readme) {
        StringBuilder text = new StringBuilder("import java.util.*;\npublic final class " + PROGRAM + " {\n"
            + "public static List<String[]> answers() {\nList<String[]> answers = new ArrayList<>();\nString got;\n");
        Matcher piece = Pattern.compile("(?s)```java\\n(.*?)```").matcher(readme);
        while (piece.find()) {
            for (String line : piece.group(1).split("\n")) {
                text.append(statementOf(line)).append("\n");
            }
        }
        return text.append("return answers;\n}\n}\n").toString();
    }

    private static String statementOf(String line) {
        Matcher answered = ANSWERED.matcher(line);
        if (!answered.matches()) {
            boolean isBare = line.startsWith("//") || !line.contains("//");
            checks.due("a comment behind a call begins with its answer: " + line, isBare, true);
            return line;
        }
        String declared = answered.group(1);
        String call = answered.group(2);
        String due = answered.group(3);
        String keep = "answers.add(new String[] {\"" + call + "\", got, \"" + due + "\"});";
        if (declared != null) {
            String name = declared.split(" ")[1];
            return declared + call + "; got = String.valueOf(" + name + "); " + keep;
        }
        if (due.endsWith("Exception")) {
            return "try { " + call + "; got = \"nothing\"; } catch (RuntimeException e) { got = e.getClass().getSimpleName(); } "
                + keep;
        }
        return "got = String.valueOf(" + call + "); " + keep;
    }

    private static void allCalls(String readme) {
        for (Method m : QuestionDesk.class.getDeclaredMethods()) {
            if (Modifier.isPublic(m.getModifiers())) {
                checks.due("uses " + m.getName(), readme.contains("desk." + m.getName() + "("), true);
                checks.due("tells of " + m.getName(), readme.contains("`" + m.getName()), true);
            }
        }
    }

    private static void allTests(String readme) throws IOException {
        try (DirectoryStream<Path> tests = Files.newDirectoryStream(TESTS, "*Test.java")) {
            for (Path test : tests) {
                String name = test.getFileName().toString().replace(".java", "");
                checks.due("tells of " + name, readme.contains("`" + name + "`"), true);
            }
        }
        checks.due("tells of .ci/run, which is there", readme.contains(".ci/run") && Files.exists(Path.of(".ci/run")), true);
    }

    /** A name in marks that looks like a path is one of a file, and one that looks like a class is one of a test's. */
    private static void allFiles(String readme) {
        Matcher path = Pattern.compile("`([\\w./]+/[\\w./]+)`").matcher(readme);
        while (path.find()) {
            checks.due(path.group(1) + " is there", Files.exists(Path.of(path.group(1))), true);
        }
        Matcher helper = Pattern.compile("`([A-Z]\\w*[a-z])`").matcher(readme);
        while (helper.find()) {
            boolean isThrown = helper.group(1).endsWith("Exception");
            boolean isFile = Files.exists(TESTS.resolve(helper.group(1) + ".java"));
            checks.due(helper.group(1) + " is there", isThrown || isFile, true);
        }
    }
}

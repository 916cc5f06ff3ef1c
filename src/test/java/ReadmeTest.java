import java.io.IOException;
import java.net.URL;
import java.net.URLClassLoader;
import java.nio.file.Files;
import java.nio.file.Path;
import java.util.ArrayList;
import java.util.List;
import java.util.Set;
import java.util.TreeSet;
import java.util.regex.Matcher;
import java.util.regex.Pattern;
import java.util.stream.Stream;
import javax.tools.ToolProvider;

/**
 * README.md, which is read where the test is run: its calls are compiled and made in their order as they stand there, and
 * have to answer what it names; and it has to name the command that runs the tests, and each test that there is.
 */
public final class ReadmeTest {
    private static final Path README = Path.of("README.md"), TESTS = Path.of("src/test/java"), COMMAND = Path.of(".ci/run");
    /** A call, with the variable that keeps its answer if there is one, and what is said of it. */
    private static final Pattern CALL = Pattern.compile("(?:(?:LoopListeners|int) (\\w+) = )?[^;]+;(?:\\s*// *(.*))?");
    private static final Pattern NAMED_ANSWER = Pattern.compile("(-?\\d+)(?!\\w).*");
    private static final Pattern NAMED_TEST = Pattern.compile("\\| `(\\w+)` \\|.*");
    private static final int LEAST_ANSWERS = 10;
    private static final Due due = new Due();

    public static void main(String[] args) throws IOException, ReflectiveOperationException {
        List<String> lines = Files.readAllLines(README);
        useIsRight(block(lines, "java"));
        commandIsRight(block(lines, "sh"));
        testsAreNamed(lines);
        due.end();
    }

    /** The lines of all blocks of a language, one after the other. */
    private static List<String> block(List<String> lines, String language) {
        List<String> found = new ArrayList<>();
        boolean inside = false;
        for (String line : lines) {
            if (line.startsWith("```")) {
                inside = line.equals("```" + language);
            } else if (inside && !line.isBlank()) {
                found.add(line.strip());
            }
        }
        return found;
    }

    private static void is(String what, boolean so) {
        due.is(what, so ? 1 : 0, 1);
    }

    private static void useIsRight(List<String> lines) throws IOException, ReflectiveOperationException {
        StringBuilder body = new StringBuilder();
        List<String> calls = new ArrayList<>();
        List<Integer> named = new ArrayList<>();
        for (String line : lines) {
            Matcher call = CALL.matcher(line);
            is("a call stands in the line " + line, call.matches());
            Matcher answer = NAMED_ANSWER.matcher(call.matches() && call.group(2) != null ? call.group(2) : "");
            if (!answer.matches()) {
                body.append(line).append('\n');
                continue;
            }
            String place = "answers[" + named.size() + "] = ";
            body.append(call.group(1) == null ? place + line : line + "\n" + place + call.group(1) + ";").append('\n');
            calls.add(line);
            named.add(Integer.valueOf(answer.group(1)));
        }
        is("answers that are named: " + named.size(), named.size() >= LEAST_ANSWERS);
        int[] answers = answers(body.toString(), named.size());
        for (int i = 0; i < answers.length; i++) {
            due.is(calls.get(i), answers[i], named.get(i));
        }
    }

    /** What the calls answer, compiled as the body of a method of a class beside LoopListeners. */
    private static int[] answers(String body, int many) throws IOException, ReflectiveOperationException {
        Path directory = Files.createTempDirectory("readme");
        Path source = directory.resolve("ReadmeUse.java");
        Path compiled = directory.resolve("ReadmeUse.class");
        try (URLClassLoader loader = new URLClassLoader(new URL[] {directory.toUri().toURL()})) {
            Files.writeString(source, "public final class ReadmeUse {\npublic static int[] answers() {\nint[] answers = new int["
                + many + "];\n" + body + "return answers;\n}\n}\n");
            int failed = ToolProvider.getSystemJavaCompiler().run(null, null, null,
                "-cp", System.getProperty("java.class.path"), "-d", directory.toString(), source.toString());
            due.is("compiling the calls", failed, 0);
            return failed == 0 ? (int[]) loader.loadClass("ReadmeUse").getMethod("answers").invoke(null) : new int[0];
        } finally {
            Files.deleteIfExists(source);
            Files.deleteIfExists(compiled);
            Files.deleteIfExists(directory);
        }
    }

    private static void commandIsRight(List<String> commands) {
        is("the command " + commands, commands.equals(List.of(COMMAND.toString())));
        is("it can be run", Files.isExecutable(COMMAND));
    }

    /** A program that is no test by its name would not be run. */
    private static void testsAreNamed(List<String> lines) throws IOException {
        Set<String> named = new TreeSet<>();
        for (String line : lines) {
            Matcher test = NAMED_TEST.matcher(line);
            if (test.matches()) {
                named.add(test.group(1));
            }
        }
        Set<String> tests = new TreeSet<>();
        try (Stream<Path> files = Files.list(TESTS)) {
            for (Path file : (Iterable<Path>) files::iterator) {
                String name = file.getFileName().toString().replace(".java", "");
                boolean isTest = name.endsWith("Test");
                is(name + " is named as a test just if it can be run", isTest == Files.readString(file).contains(" static void main("));
                if (isTest) {
                    tests.add(name);
                }
            }
        }
        is("the tests that are named " + named + " are those that there are " + tests, named.equals(tests));
    }
}

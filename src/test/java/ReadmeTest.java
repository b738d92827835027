import java.io.IOException;
import java.lang.reflect.Method;
import java.lang.reflect.Modifier;
import java.net.URL;
import java.net.URLClassLoader;
import java.nio.file.Files;
import java.nio.file.Path;
import java.util.ArrayList;
import java.util.List;
import java.util.function.Supplier;
import java.util.regex.Matcher;
import java.util.regex.Pattern;
import javax.tools.JavaCompiler;
import javax.tools.ToolProvider;

/**
 * The examples of README.md compile, and each call answers what stands behind it. They are written into a program
 * that has each example at the lines where it stands in README.md, so that the compiler names these.
 */
public final class ReadmeTest {
    private static final Path README = Path.of("README.md");
    private static final Path TESTS = Path.of("src", "test", "java");
    private static final Pattern CALL = Pattern.compile("(bus\\.\\w+\\(.*\\));(.*)");
    private static final Pattern ANSWER = Pattern.compile("\\s+// (throws \\w+|[-.0-9]+)(: .+)?");
    private static final String PROGRAM = "ReadmeExamples";

    private final Due due = new Due("ReadmeTest");
    /** The calls of the examples with their lines, and the answers that stand behind them. */
    private final List<String> calls = new ArrayList<>();
    private final List<String> wanted = new ArrayList<>();

    public static void main(String[] args) throws Exception {
        new ReadmeTest().run();
    }

    private void run() throws Exception {
        List<String> lines = Files.readAllLines(README);
        compareAnswers(answersOf(programOf(lines)));
        eachMethodIsShown();
        eachTestIsNamed(String.join("\n", lines));
        due.end();
    }

    private String programOf(List<String> lines) {
        StringBuilder program = new StringBuilder("import java.util.ArrayList; import java.util.List; ");
        program.append("public final class ").append(PROGRAM);
        program.append(" implements java.util.function.Supplier<List<String>> { public List<String> get() { ");
        program.append("List<String> answers = new ArrayList<>(); ");
        boolean inside = false;
        for (int i = 0; i < lines.size(); i++) {
            String line = lines.get(i);
            if (line.startsWith("```")) {
                due.holds("that the fence in line " + (i + 1) + " begins or ends Java", line.equals(inside ? "```" : "```java"));
                inside = !inside;
                program.append(inside ? "{ " : "} ");
            } else if (inside) {
                program.append(statementOf(line, i + 1));
            }
            program.append('\n');
        }
        return program.append("return answers; } }\n").toString();
    }

    /** A call is made so that its answer is kept; it must have one behind it. All else stands as it is. */
    private String statementOf(String line, int number) {
        Matcher call = CALL.matcher(line);
        if (!call.matches()) {
            return line;
        }
        Matcher answer = ANSWER.matcher(call.group(2));
        boolean answered = answer.matches();
        due.holds("that an answer stands behind the call in line " + number, answered);
        calls.add("line " + number + ", " + call.group(1));
        wanted.add(answered ? answer.group(1) : "");
        return "try { answers.add(String.valueOf(" + call.group(1) + ")); } catch (RuntimeException e) "
                + "{ answers.add(\"throws \" + e.getClass().getSimpleName()); }";
    }

    private List<String> answersOf(String program) throws Exception {
        Path place = Files.createTempDirectory("readme");
        try {
            Path source = place.resolve(PROGRAM + ".java");
            Files.writeString(source, program);
            JavaCompiler compiler = ToolProvider.getSystemJavaCompiler();
            int failed = compiler.run(null, null, null, "-Xlint:all", "-Werror",
                    "-cp", System.getProperty("java.class.path"), "-d", place.toString(), source.toString());
            due.is("the compiler, of the examples of README.md,", failed, 0);
            return failed == 0 ? runFrom(place) : new ArrayList<>();
        } finally {
            delete(place);
        }
    }

    private static List<String> runFrom(Path place) throws Exception {
        try (URLClassLoader loader = new URLClassLoader(new URL[] {place.toUri().toURL()})) {
            Object made = loader.loadClass(PROGRAM).getDeclaredConstructor().newInstance();
            List<String> answers = new ArrayList<>();
            for (Object answer : (List<?>) ((Supplier<?>) made).get()) {
                answers.add((String) answer);
            }
            return answers;
        }
    }

    private static void delete(Path place) throws IOException {
        try (var files = Files.newDirectoryStream(place)) {
            for (Path file : files) {
                Files.delete(file);
            }
        }
        Files.delete(place);
    }

    private void compareAnswers(List<String> answers) {
        due.is("the calls made", answers.size(), calls.size());
        for (int i = 0; i < answers.size() && i < calls.size(); i++) {
            due.is(calls.get(i), answers.get(i), wanted.get(i));
        }
    }

    private void eachMethodIsShown() {
        String shown = String.join("\n", calls);
        for (Method method : TwoWires.class.getDeclaredMethods()) {
            if (Modifier.isPublic(method.getModifiers())) {
                due.holds("that an example calls " + method.getName(), shown.contains("bus." + method.getName() + "("));
            }
        }
    }

    private void eachTestIsNamed(String readme) throws IOException {
        try (var files = Files.newDirectoryStream(TESTS, "*Test.java")) {
            for (Path file : files) {
                String name = file.getFileName().toString().replace(".java", "");
                due.holds("that the table names " + name, readme.contains("| `" + name + "` |"));
            }
        }
    }
}

import java.io.IOException;
import java.io.PrintWriter;
import java.io.StringWriter;
import java.lang.reflect.Executable;
import java.lang.reflect.Field;
import java.lang.reflect.Modifier;
import java.nio.file.Files;
import java.nio.file.Path;
import java.util.ArrayList;
import java.util.LinkedHashMap;
import java.util.LinkedHashSet;
import java.util.List;
import java.util.Map;
import java.util.Set;
import java.util.regex.Matcher;
import java.util.regex.Pattern;
import java.util.spi.ToolProvider;

/** What ../shared/LANGUAGE.md rules out does not stand in the program: its source and its bytecode are read. */
public final class LanguageTest {
    private static final Path PROGRAM = Path.of("src", "main", "java", "TwoWires.java");
    private static final Pattern COMMENT_OR_TEXT =
            Pattern.compile("/\\*.*?\\*/|//[^\\n]*|\"(?:\\\\.|[^\"\\\\])*\"|'(?:\\\\.|[^'\\\\])+'", Pattern.DOTALL);
    /** By the rules 1, 2, 5 and 6; a try, and what extends or implements, is allowed there, but this program has none. */
    private static final Pattern RULED_OUT = Pattern.compile("\\b(?:import|package|protected|try|catch|finally|assert|"
            + "synchronized|volatile|transient|native|strictfp|implements|extends)\\b|->|::|@|\\bstatic \\{");
    private static final Pattern THROW = Pattern.compile("\\bthrow\\b\\s*(.*)");
    private static final Pattern WRITTEN = Pattern.compile("new (?:IllegalStateException|IllegalArgumentException|"
            + "IndexOutOfBoundsException)\\(\"[ -~]*\"\\);");
    /** Rule 4, and the exceptions of rule 6: all of the library that the program uses. */
    private static final Set<String> LIBRARY = Set.of("java/lang/Object.\"<init>\":()V", "java/lang/Math.min:(II)I",
            "java/lang/System.arraycopy:(Ljava/lang/Object;ILjava/lang/Object;II)V",
            "java/lang/IllegalStateException.\"<init>\":(Ljava/lang/String;)V",
            "java/lang/IllegalArgumentException.\"<init>\":(Ljava/lang/String;)V",
            "java/lang/IndexOutOfBoundsException.\"<init>\":(Ljava/lang/String;)V");
    /** Rule 7: where the machine itself could throw for a divisor or a cast; and what a lambda or a joined text is made of. */
    private static final Pattern MACHINE_THROWS =
            Pattern.compile("^ +\\d+: (?:idiv|irem|ldiv|lrem|checkcast|invokedynamic|monitorenter)\\b");
    private static final Pattern METHOD_LINE = Pattern.compile("  \\S.*?([\\w$]+)\\(.*\\).*;");
    private static final Pattern DESCRIPTOR_LINE = Pattern.compile("    descriptor: (\\(.*)");
    private static final Pattern CALL_LINE = Pattern.compile(".*// (?:Interface)?Method (\\S+)");
    private static final int MOST_LINES = 60;
    private static final int MOST_DEEP = 8;

    private final Due due = new Due("LanguageTest");
    private final List<Class<?>> classes = new ArrayList<>();
    /** Each method with those that it calls, named as the bytecode does. */
    private final Map<String, Set<String>> calls = new LinkedHashMap<>();

    public static void main(String[] args) throws IOException {
        new LanguageTest().run();
    }

    private void run() throws IOException {
        classes.add(TwoWires.class);
        classes.addAll(List.of(TwoWires.class.getDeclaredClasses()));
        List<String> lines = Files.readAllLines(PROGRAM);
        readSource(String.join("\n", lines));
        methodsAreShort(lines);
        sizes();
        readBytecode();
        for (String method : calls.keySet()) {
            int deep = depth(method, new LinkedHashSet<>());
            due.holds("that the calls of " + method + " go at most 8 deep; they go " + deep, deep <= MOST_DEEP);
        }
        due.end();
    }

    private void readSource(String source) {
        due.holds("that all signs are plain ones", source.matches("(?s)[\\n -~]*"));
        Matcher found = RULED_OUT.matcher(COMMENT_OR_TEXT.matcher(source).replaceAll(" "));
        while (found.find()) {
            due.tell("the source has " + found.group());
        }
        String uncommented = COMMENT_OR_TEXT.matcher(source).replaceAll(
                part -> part.group().startsWith("/") ? " " : Matcher.quoteReplacement(part.group()));
        Matcher thrown = THROW.matcher(uncommented);
        int count = 0;
        while (thrown.find()) {
            count++;
            due.holds("that an exception of rule 6 is thrown by " + thrown.group(1), WRITTEN.matcher(thrown.group(1)).matches());
        }
        due.holds("that exceptions are thrown", count > 0);
    }

    private void methodsAreShort(List<String> lines) {
        for (String indent : new String[] {"    ", "        "}) {
            int begin = 0;
            for (int i = 0; i < lines.size(); i++) {
                String line = lines.get(i);
                if (line.startsWith(indent) && line.length() > indent.length() && line.charAt(indent.length()) != ' '
                        && line.endsWith("{") && !line.contains(" class ")) {
                    begin = i;
                } else if (line.equals(indent + "}") && begin > 0) {
                    due.holds("that few lines stand behind '" + lines.get(begin).trim() + "'", i - begin < MOST_LINES);
                    begin = 0;
                }
            }
        }
    }

    private void sizes() {
        due.holds("that there are at most 12 classes", classes.size() <= 12);
        for (Class<?> each : classes) {
            int fields = 0;
            for (Field field : each.getDeclaredFields()) {
                boolean constant = Modifier.isStatic(field.getModifiers());
                due.holds("that " + field + " is final, if it is static", !constant || Modifier.isFinal(field.getModifiers()));
                fields += constant ? 0 : 1;
            }
            due.holds("that " + each + " has at most 20 fields", fields <= 20);
            List<Executable> all = new ArrayList<>(List.of(each.getDeclaredMethods()));
            all.addAll(List.of(each.getDeclaredConstructors()));
            for (Executable method : all) {
                due.holds("that " + method + " has at most 7 parameters", method.getParameterCount() <= 7);
            }
        }
    }

    private void readBytecode() {
        for (Class<?> each : classes) {
            String type = each.getName();
            String name = "";
            String key = "";
            for (String line : bytecode(type).split("\n")) {
                Matcher method = METHOD_LINE.matcher(line);
                Matcher descriptor = DESCRIPTOR_LINE.matcher(line);
                Matcher called = CALL_LINE.matcher(line);
                if (method.matches()) {
                    name = method.group(1).equals(type) ? "\"<init>\"" : method.group(1);
                } else if (descriptor.matches()) {
                    key = type + "." + name + ":" + descriptor.group(1);
                    calls.put(key, new LinkedHashSet<>());
                } else if (called.matches()) {
                    addCall(key, called.group(1).matches("[^(]*\\..*") ? called.group(1) : type + "." + called.group(1));
                }
                due.holds("that there is none of '" + line.trim() + "' in " + key, !MACHINE_THROWS.matcher(line).find()
                        && !line.trim().equals("static {};") && !(name.contains("init") && line.endsWith("athrow")));
            }
        }
        due.holds("that the bytecode was read", calls.size() > 26);
    }

    private void addCall(String from, String to) {
        if (!to.startsWith("TwoWires")) {
            due.holds("that " + to + " is what the program uses of the library", LIBRARY.contains(to));
        } else if (calls.containsKey(from)) {
            calls.get(from).add(to);
        } else {
            due.tell("a call of " + to + " stands in no method");
        }
    }

    private String bytecode(String type) {
        StringWriter out = new StringWriter();
        PrintWriter writer = new PrintWriter(out);
        ToolProvider javap = ToolProvider.findFirst("javap").orElseThrow();
        int failed = javap.run(writer, writer, "-c", "-p", "-s", "-cp", System.getProperty("java.class.path"), type);
        writer.flush();
        due.is("javap, of " + type + ",", failed, 0);
        return out.toString();
    }

    /** How many methods are open at once at most, this one among them. */
    private int depth(String method, Set<String> open) {
        if (!open.add(method)) {
            due.tell(method + " calls itself");
            return 0;
        }
        due.holds("that " + method + " was read", calls.containsKey(method));
        int deepest = 0;
        for (String called : calls.getOrDefault(method, Set.of())) {
            deepest = Math.max(deepest, depth(called, open));
        }
        open.remove(method);
        return deepest + 1;
    }
}

import java.io.IOException;
import java.lang.reflect.Constructor;
import java.lang.reflect.Field;
import java.lang.reflect.Method;
import java.lang.reflect.Modifier;
import java.nio.file.Files;
import java.nio.file.Path;
import java.util.ArrayList;
import java.util.Arrays;
import java.util.List;
import java.util.TreeSet;
import java.util.regex.Matcher;
import java.util.regex.Pattern;

/** The public face as the document shows it, and nothing beside it. */
public final class FaceTest {
    private static final String[] METHODS = {
        "int begin(int) IllegalArgumentException",
        "int addListener(int, int) IllegalArgumentException IllegalStateException",
        "int turn(int, boolean) IndexOutOfBoundsException IllegalStateException",
        "int empty(int) IndexOutOfBoundsException",
        "int setLimit(int) IllegalArgumentException",
        "int write(int, int, int, long) IndexOutOfBoundsException IllegalArgumentException IllegalStateException",
        "int read(int, int, int) IndexOutOfBoundsException IllegalArgumentException IllegalStateException",
        "int cancel(int) IndexOutOfBoundsException IllegalStateException",
        "int pass(int) IllegalArgumentException",
        "int finish()",
        "int caller(int, int) IndexOutOfBoundsException IllegalArgumentException",
        "int message(int, int, int) IndexOutOfBoundsException IllegalArgumentException",
        "int listener(int, int) IndexOutOfBoundsException IllegalArgumentException",
        "int memory(int, int) IndexOutOfBoundsException",
        "int value(int) IllegalArgumentException",
        "int log(int, int) IndexOutOfBoundsException IllegalArgumentException",
        "int slotsToFinish()",
        "int alone(int) IndexOutOfBoundsException",
        "int winners()",
        "int delivers(int) IndexOutOfBoundsException",
        "double busy()",
        "int append(int) IllegalArgumentException IllegalStateException",
        "int clearText()",
        "int carryOut()",
        "int undo() IllegalStateException",
        "long digest()",
    };

    private static final Path DOCUMENT = Path.of("..", "shared", "DOC.md");
    private static final Path PROGRAM = Path.of("src", "main", "java", "TwoWires.java");
    /** "Ahead of the calls `append`, `clearText`, `carryOut` the interface says: ---- text." */
    private static final Pattern GROUP = Pattern.compile("Ahead of the calls (.*) the interface says: (---- .*)\\.");
    private static final Pattern MEMBER = Pattern.compile("    public (?!(?:static )?class )([^({;]*(?:\\([^)]*\\)[^{;]*)?)[{;]");
    private static final Pattern CALLED = Pattern.compile("(\\w+)\\(");

    public static void main(String[] args) throws IOException {
        Due due = new Due("FaceTest");
        due.is("NONE", TwoWires.NONE, -1);
        due.is("the modifiers of the class", Modifier.toString(TwoWires.class.getModifiers()), "public final");
        due.holds("that the class is one of its own", TwoWires.class.getSuperclass() == Object.class
                && TwoWires.class.getInterfaces().length == 0 && TwoWires.class.getPackageName().isEmpty());
        methods(due);
        fieldsAndConstructors(due);
        String document = Files.readString(DOCUMENT);
        String program = Files.readString(PROGRAM);
        due.is("the face in the source", members(program), members(faceIn(document)));
        groups(due, document, program);
        for (Class<?> inside : TwoWires.class.getDeclaredClasses()) {
            due.holds(inside + " is static and not public", Modifier.isStatic(inside.getModifiers())
                    && !Modifier.isPublic(inside.getModifiers()) && !Modifier.isProtected(inside.getModifiers()));
        }
        due.end();
    }

    private static void methods(Due due) {
        TreeSet<String> open = new TreeSet<>();
        TreeSet<String> names = new TreeSet<>();
        List<String> closed = new ArrayList<>();
        for (Method method : TwoWires.class.getDeclaredMethods()) {
            if (Modifier.isPrivate(method.getModifiers())) {
                closed.add(method.getName());
            } else {
                due.is("the modifiers of " + method.getName(), Modifier.toString(method.getModifiers()), "public");
                open.add(signature(method));
                names.add(method.getName());
            }
        }
        due.holds("the methods " + open + " are those of the document", open.equals(new TreeSet<>(Arrays.asList(METHODS))));
        for (Class<?> inside : TwoWires.class.getDeclaredClasses()) {
            for (Method method : inside.getDeclaredMethods()) {
                closed.add(method.getName());
            }
        }
        for (String name : closed) {
            due.holds("that " + name + " is no name of a public method", !names.contains(name));
        }
    }

    private static String signature(Method method) {
        StringBuilder out = new StringBuilder();
        out.append(method.getReturnType().getSimpleName()).append(' ').append(method.getName()).append('(');
        String between = "";
        for (Class<?> parameter : method.getParameterTypes()) {
            out.append(between).append(parameter.getSimpleName());
            between = ", ";
        }
        out.append(')');
        for (Class<?> thrown : method.getExceptionTypes()) {
            out.append(' ').append(thrown.getSimpleName());
        }
        return out.toString();
    }

    private static void fieldsAndConstructors(Due due) {
        for (Field field : TwoWires.class.getDeclaredFields()) {
            boolean closed = Modifier.isPrivate(field.getModifiers());
            due.holds("that the field " + field.getName() + " is private or NONE", closed != field.getName().equals("NONE"));
            if (!closed) {
                due.is("the modifiers of NONE", Modifier.toString(field.getModifiers()), "public static final");
                due.is("the type of NONE", field.getType().getName(), "int");
            }
        }
        Constructor<?>[] constructors = TwoWires.class.getDeclaredConstructors();
        due.is("the constructors", constructors.length, 1);
        due.holds("that the constructor is public and has no parameters", Modifier.isPublic(constructors[0].getModifiers())
                && constructors[0].getParameterCount() == 0);
        due.is("the exceptions of the constructor", constructors[0].getExceptionTypes().length, 0);
    }

    private static String faceIn(String document) {
        int from = document.indexOf("public final class TwoWires {");
        int to = document.indexOf("```", from);
        return from < 0 || to < 0 ? "" : document.substring(from, to);
    }

    /** The heads of the public members of the class, in their order, each in a line. */
    private static String members(String text) {
        StringBuilder out = new StringBuilder();
        Matcher member = MEMBER.matcher(text);
        while (member.find()) {
            out.append(member.group(1).trim().replaceAll("\\s+", " ")).append('\n');
        }
        return out.toString();
    }

    /** Each call of a group stands in the source behind what the interface says ahead of the group, and no other does. */
    private static void groups(Due due, String document, String program) {
        StringBuilder want = new StringBuilder();
        Matcher group = GROUP.matcher(document);
        while (group.find()) {
            want.append(group.group(2)).append(": ").append(group.group(1).replaceAll("[`,]", "")).append('\n');
        }
        StringBuilder got = new StringBuilder();
        for (String part : program.split("\n    // (?=---- )")) {
            if (part.startsWith("---- ")) {
                got.append(part, 0, part.indexOf('\n')).append(':').append(callsIn(part)).append('\n');
            }
        }
        due.holds("that the document tells groups of calls", want.length() > 0);
        due.is("the groups in the source", got.toString(), want.toString());
    }

    private static String callsIn(String part) {
        StringBuilder out = new StringBuilder();
        Matcher called = CALLED.matcher(members(part));
        while (called.find()) {
            out.append(' ').append(called.group(1));
        }
        return out.toString();
    }
}

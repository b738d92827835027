import java.lang.reflect.Constructor;
import java.lang.reflect.Field;
import java.lang.reflect.Method;
import java.lang.reflect.Modifier;
import java.util.ArrayList;
import java.util.Arrays;
import java.util.List;
import java.util.TreeSet;

/** The public face, and nothing beside it. */
public final class FaceTest {
    private static final String[] METHODS = {
        "int begin(int) IllegalArgumentException",
        "int addListener(int, int) IllegalArgumentException IllegalStateException",
        "int turn(int, boolean) IndexOutOfBoundsException IllegalStateException",
        "int empty(int) IndexOutOfBoundsException",
        "int setLimit(int) IllegalArgumentException",
        "int write(int, int, int, long) IndexOutOfBoundsException IllegalArgumentException IllegalStateException",
        "int read(int, int, int) IndexOutOfBoundsException IllegalArgumentException IllegalStateException",
        "int cancel(int) IndexOutOfBoundsException IllegalStateException",
        "int pass(int) IllegalArgumentException",
        "int finish()",
        "int caller(int, int) IndexOutOfBoundsException IllegalArgumentException",
        "int message(int, int, int) IndexOutOfBoundsException IllegalArgumentException",
        "int listener(int, int) IndexOutOfBoundsException IllegalArgumentException",
        "int memory(int, int) IndexOutOfBoundsException",
        "int value(int) IllegalArgumentException",
        "int log(int, int) IndexOutOfBoundsException IllegalArgumentException",
        "int slotsToFinish()",
        "int alone(int) IndexOutOfBoundsException",
        "int winners()",
        "int delivers(int) IndexOutOfBoundsException",
        "double busy()",
        "int append(int) IllegalArgumentException IllegalStateException",
        "int clearText()",
        "int carryOut()",
        "int undo() IllegalStateException",
        "long digest()",
    };

    public static void main(String[] args) {
        Due due = new Due("FaceTest");
        due.is("NONE", TwoWires.NONE, -1);
        due.holds("the class is public and final", Modifier.isPublic(TwoWires.class.getModifiers())
                && Modifier.isFinal(TwoWires.class.getModifiers()));
        methods(due);
        fieldsAndConstructors(due);
        for (Class<?> inside : TwoWires.class.getDeclaredClasses()) {
            due.holds(inside + " is static and not public", Modifier.isStatic(inside.getModifiers())
                    && !Modifier.isPublic(inside.getModifiers()) && !Modifier.isProtected(inside.getModifiers()));
        }
        due.end();
    }

    private static void methods(Due due) {
        TreeSet<String> open = new TreeSet<>();
        TreeSet<String> names = new TreeSet<>();
        List<String> closed = new ArrayList<>();
        for (Method method : TwoWires.class.getDeclaredMethods()) {
            if (Modifier.isPrivate(method.getModifiers())) {
                closed.add(method.getName());
            } else {
                open.add(signature(method));
                names.add(method.getName());
            }
        }
        due.holds("the methods " + open + " are those of the document", open.equals(new TreeSet<>(Arrays.asList(METHODS))));
        for (Class<?> inside : TwoWires.class.getDeclaredClasses()) {
            for (Method method : inside.getDeclaredMethods()) {
                closed.add(method.getName());
            }
        }
        for (String name : closed) {
            due.holds("that " + name + " is no name of a public method", !names.contains(name));
        }
    }

    private static String signature(Method method) {
        StringBuilder out = new StringBuilder();
        out.append(method.getReturnType().getSimpleName()).append(' ').append(method.getName()).append('(');
        String between = "";
        for (Class<?> parameter : method.getParameterTypes()) {
            out.append(between).append(parameter.getSimpleName());
            between = ", ";
        }
        out.append(')');
        for (Class<?> thrown : method.getExceptionTypes()) {
            out.append(' ').append(thrown.getSimpleName());
        }
        return out.toString();
    }

    private static void fieldsAndConstructors(Due due) {
        for (Field field : TwoWires.class.getDeclaredFields()) {
            boolean closed = Modifier.isPrivate(field.getModifiers());
            due.holds("that the field " + field.getName() + " is private or NONE", closed || field.getName().equals("NONE"));
        }
        Constructor<?>[] constructors = TwoWires.class.getDeclaredConstructors();
        due.is("the constructors", constructors.length, 1);
        due.holds("that the constructor is public and has no parameters", Modifier.isPublic(constructors[0].getModifiers())
                && constructors[0].getParameterCount() == 0);
    }
}

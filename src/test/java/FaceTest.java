import java.lang.reflect.Field;
import java.lang.reflect.Method;
import java.lang.reflect.Modifier;
import java.util.Arrays;
import java.util.List;
import java.util.TreeSet;
import java.util.stream.Collectors;

/** The public face is that of the document, and nothing else of the class can be seen from without. */
public final class FaceTest {
    private static final Check CHECK = new Check();
    private static final int SOME_CLASSES = 14;
    private static final int SOME_FIELDS = 24;
    private static final String I = "IndexOutOfBoundsException";
    private static final String A = "IllegalArgumentException";
    private static final String U = "UnsupportedOperationException";
    private static final String N = "NoSuchElementException";
    private static final List<String> FACE = List.of(
        "int feed(int int int int int)", "boolean end(int)", "int forest() " + A + " " + U,
        "int chip(int int) " + I + " " + A + " " + U, "int fault()", "int run(int) " + A, "int pole(int) " + I,
        "int water(int) " + A, "int look(int int) " + I + " " + N, "int camp(int int) " + I + " " + N,
        "int reach(int int) " + I + " " + N, "int out(int)", "int time(int int int int) " + I + " " + A,
        "int waits(int int int int int) " + I + " " + A, "int order(int int) " + I + " " + A + " " + U,
        "int ahead(int int int) " + I + " " + A, "int plan(int) " + I, "int chance(int int) " + I + " " + A,
        "int repeats(int int int) " + I + " " + A, "int fits(int) " + A, "int test(int)",
        "int later(int int) " + A + " " + N, "void image()", "boolean back()", "int count(int)");

    public static void main(String[] args) {
        Class<?> c = FlumeOrders.class;
        CHECK.due("public and final", Modifier.isPublic(c.getModifiers()) && Modifier.isFinal(c.getModifiers()), true);
        CHECK.due("constructors", c.getDeclaredConstructors().length, 1);
        CHECK.due("public constructors", c.getConstructors().length, 1);
        methods(c);
        fields(c);
        CHECK.due("some twelve classes", c.getDeclaredClasses().length <= SOME_CLASSES, true);
        for (Class<?> inner : c.getDeclaredClasses()) {
            int m = inner.getModifiers();
            CHECK.due(inner + " is private or package-visible", Modifier.isPublic(m) || Modifier.isProtected(m), false);
            staticFieldsAreFinal(inner);
        }
        CHECK.over("FaceTest");
    }

    private static void staticFieldsAreFinal(Class<?> c) {
        int own = 0;
        for (Field f : c.getDeclaredFields()) {
            if (f.isSynthetic()) {
                continue;
            }
            if (Modifier.isStatic(f.getModifiers())) {
                CHECK.due(f + " is final", Modifier.isFinal(f.getModifiers()), true);
            } else {
                own++;
            }
        }
        CHECK.due("some twenty fields of " + c, own <= SOME_FIELDS, true);
    }

    private static void methods(Class<?> c) {
        TreeSet<String> seen = new TreeSet<>();
        for (Method m : c.getDeclaredMethods()) {
            if (Modifier.isPrivate(m.getModifiers()) || m.isSynthetic()) {
                continue;
            }
            CHECK.due(m + " is public, of an object", Modifier.isPublic(m.getModifiers())
                && !Modifier.isStatic(m.getModifiers()), true);
            String parameters = Arrays.stream(m.getParameterTypes()).map(Class::getName).collect(Collectors.joining(" "));
            String thrown = Arrays.stream(m.getExceptionTypes()).map(Class::getSimpleName).collect(Collectors.joining(" "));
            seen.add((m.getReturnType().getName() + " " + m.getName() + "(" + parameters + ") " + thrown).trim());
        }
        TreeSet<String> due = new TreeSet<>(FACE);
        if (!seen.equals(due)) {
            System.out.println("seen " + seen + "\ndue  " + due);
        }
        CHECK.due("the methods of the document", seen.equals(due), true);
        noneBearsAPublicName(c);
    }

    private static void noneBearsAPublicName(Class<?> c) {
        for (Method m : c.getDeclaredMethods()) {
            boolean isOfFace = FACE.stream().anyMatch(f -> f.contains(" " + m.getName() + "("));
            CHECK.due(m + " bears a public name", isOfFace && Modifier.isPrivate(m.getModifiers()), false);
        }
    }

    private static void fields(Class<?> c) {
        for (Field f : c.getDeclaredFields()) {
            if (!f.isSynthetic()) {
                CHECK.due(f + " is seen from without", !Modifier.isPrivate(f.getModifiers()), f.getName().equals("NONE"));
            }
        }
        staticFieldsAreFinal(c);
    }
}

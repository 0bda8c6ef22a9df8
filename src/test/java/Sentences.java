import java.io.IOException;
import java.lang.reflect.InvocationTargetException;
import java.lang.reflect.Method;
import java.nio.file.Files;
import java.nio.file.Path;
import java.util.ArrayList;
import java.util.Comparator;
import java.util.List;

/** Runs the tests of a class that hold a sentence of the document each, and tells which sentences are broken. */
final class Sentences {
    private Sentences() {
    }

    /** Ends the program with exit code 1 if a sentence is broken, or does not stand in the document. */
    static void hold(Class<?> tests) throws IOException {
        String document = oneLine(Files.readString(Path.of("../shared/DOC.md")));
        int broken = 0;
        List<Method> all = testsOf(tests);
        for (Method test : all) {
            String sentence = test.getAnnotation(Sentence.class).value();
            if (!document.contains(oneLine(sentence))) {
                System.out.println(test.getName() + ": the document does not say \"" + sentence + "\"");
                broken++;
            } else if (!holds(test)) {
                System.out.println(tests.getName() + "." + test.getName() + ": broken is \"" + sentence + "\"");
                broken++;
            }
        }
        System.out.println(tests.getName() + ": " + all.size() + " sentences, " + broken + " broken");
        if (broken > 0 || all.isEmpty()) {
            System.exit(1);
        }
    }

    static List<Method> testsOf(Class<?> tests) {
        List<Method> found = new ArrayList<>();
        for (Method m : tests.getDeclaredMethods()) {
            if (m.isAnnotationPresent(Sentence.class)) {
                found.add(m);
            }
        }
        found.sort(Comparator.comparing(Method::getName));
        return found;
    }

    /** What a test throws by itself breaks its sentence, too. */
    static boolean holds(Method test) {
        Check check = new Check();
        try {
            test.setAccessible(true);
            test.invoke(null, check);
            return check.isRight();
        } catch (InvocationTargetException e) {
            System.out.println(e.getCause());
            return false;
        } catch (IllegalAccessException e) {
            throw new IllegalStateException(e);
        }
    }

    private static String oneLine(String text) {
        return text.replaceAll("\\s+", " ");
    }
}

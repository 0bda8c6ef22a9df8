import java.io.IOException;
import java.io.StringWriter;
import java.lang.reflect.Method;
import java.net.URL;
import java.net.URLClassLoader;
import java.nio.file.Files;
import java.nio.file.Path;
import java.util.ArrayList;
import java.util.List;
import java.util.TreeSet;
import java.util.concurrent.ExecutorService;
import java.util.concurrent.Executors;
import java.util.concurrent.Future;
import java.util.concurrent.FutureTask;
import java.util.concurrent.TimeUnit;
import java.util.concurrent.TimeoutException;
import javax.tools.JavaCompiler;
import javax.tools.StandardJavaFileManager;
import javax.tools.ToolProvider;

/**
 * Breaks the program by each row of breaks.txt, and tells which test of a sentence does not see it. A row is
 * "Test.method :: what stands in the program => what breaks it"; \n is a new line, and "@2 " ahead of what stands means the
 * second place where it does.
 */
public final class Breaks {
    private static final Path PROGRAM = Path.of("src/main/java/FlumeOrders.java");
    private static final Path ROWS = Path.of("src/test/breaks/breaks.txt");
    private static final int SECONDS = 20;

    private final String source = Files.readString(PROGRAM);
    private final Path tests;
    private final Path room;

    /** Where the compiled tests are, and where broken programs may be compiled. */
    private Breaks(Path tests, Path room) throws IOException {
        this.tests = tests;
        this.room = room;
    }

    public static void main(String[] args) throws Exception {
        int wrong = new Breaks(Path.of(args[0]), Path.of(args[1])).go();
        System.exit(wrong == 0 ? 0 : 1);
    }

    private int go() throws Exception {
        List<String> rows = new ArrayList<>(Files.readAllLines(ROWS));
        rows.removeIf(row -> row.isBlank() || row.startsWith("#"));
        ExecutorService workers = Executors.newFixedThreadPool(Runtime.getRuntime().availableProcessors());
        List<Future<String>> judged = new ArrayList<>();
        TreeSet<String> unbroken = new TreeSet<>(sentences());
        for (String row : rows) {
            judged.add(workers.submit(() -> judge(row)));
            unbroken.remove(testOf(row));
        }
        int wrong = unbroken.size();
        for (int i = 0; i < rows.size(); i++) {
            String fault = judged.get(i).get();
            if (!fault.isEmpty()) {
                wrong++;
                System.err.println(fault + ": " + rows.get(i));
            }
        }
        unbroken.forEach(test -> System.err.println("no break of " + test));
        System.err.println(rows.size() + " breaks, " + wrong + " wrong");
        workers.shutdown();
        return wrong;
    }

    private static String testOf(String row) {
        return row.substring(0, row.indexOf(" :: "));
    }

    private URLClassLoader loader(Path... places) throws IOException {
        URL[] urls = new URL[places.length];
        for (int i = 0; i < places.length; i++) {
            urls[i] = places[i].toUri().toURL();
        }
        return new URLClassLoader(urls, ClassLoader.getPlatformClassLoader());
    }

    private List<String> sentences() throws Exception {
        List<String> found = new ArrayList<>();
        try (URLClassLoader loader = loader(tests); var files = Files.list(tests)) {
            for (Path file : files.filter(f -> f.toString().endsWith("Test.class")).toList()) {
                String name = file.getFileName().toString().replace(".class", "");
                for (Object test : (List<?>) sentenceMethod(loader, "testsOf", Class.class).invoke(null, loader.loadClass(name))) {
                    found.add(name + "." + ((Method) test).getName());
                }
            }
        }
        return found;
    }

    private static Method sentenceMethod(ClassLoader loader, String name, Class<?> of) throws ReflectiveOperationException {
        Method m = loader.loadClass("Sentences").getDeclaredMethod(name, of);
        m.setAccessible(true);
        return m;
    }

    /** Empty if the test sees the break, else what is wrong with the row. */
    private String judge(String row) throws Exception {
        String[] change = row.substring(row.indexOf(" :: ") + 4).replace("\\n", "\n").split(" => ", 2);
        int nth = change[0].matches("(?s)@\\d .*") ? change[0].charAt(1) - '0' : 0;
        String stands = nth > 0 ? change[0].substring(3) : change[0];
        int at = source.indexOf(stands);
        if (at < 0 || nth == 0 && source.indexOf(stands, at + 1) >= 0) {
            return at < 0 ? "does not stand in the program" : "stands more than once in the program";
        }
        for (int i = 1; i < nth && at >= 0; i++) {
            at = source.indexOf(stands, at + 1);
        }
        Path place = Files.createTempDirectory(room, "break");
        Path file = place.resolve("FlumeOrders.java");
        Files.writeString(file, source.substring(0, at) + change[1] + source.substring(at + stands.length()));
        if (!compiles(file, place)) {
            return "does not compile";
        }
        return sees(testOf(row), place) ? "" : "NOT SEEN";
    }

    private static boolean compiles(Path file, Path place) throws IOException {
        JavaCompiler compiler = ToolProvider.getSystemJavaCompiler();
        try (StandardJavaFileManager files = compiler.getStandardFileManager(null, null, null)) {
            List<String> options = List.of("-nowarn", "-proc:none", "-d", place.toString());
            return compiler.getTask(new StringWriter(), files, null, options, null, files.getJavaFileObjects(file)).call();
        }
    }

    /** A test that does not end sees the break, too. */
    private boolean sees(String test, Path broken) throws Exception {
        try (URLClassLoader loader = loader(broken, tests)) {
            Class<?> tested = loader.loadClass(test.substring(0, test.indexOf('.')));
            Method method = tested.getDeclaredMethod(test.substring(test.indexOf('.') + 1), loader.loadClass("Check"));
            Method holds = sentenceMethod(loader, "holds", Method.class);
            FutureTask<Boolean> run = new FutureTask<>(() -> (Boolean) holds.invoke(null, method));
            Thread thread = new Thread(run);
            thread.setDaemon(true);
            thread.start();
            return !run.get(SECONDS, TimeUnit.SECONDS);
        } catch (TimeoutException e) {
            return true;
        }
    }
}

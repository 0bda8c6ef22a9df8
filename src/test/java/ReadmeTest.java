import java.io.ByteArrayOutputStream;
import java.io.IOException;
import java.io.PrintStream;
import java.lang.reflect.Method;
import java.lang.reflect.Modifier;
import java.net.URL;
import java.net.URLClassLoader;
import java.nio.file.Files;
import java.nio.file.Path;
import java.util.ArrayList;
import java.util.List;
import java.util.regex.Matcher;
import java.util.regex.Pattern;
import javax.tools.ToolProvider;

/** The example of README.md runs as it stands there, and each of its answers is the one told beside the call. */
public final class ReadmeTest {
    private static final Check CHECK = new Check();

    public static void main(String[] args) throws Exception {
        String readme = Files.readString(Path.of("README.md"));
        Matcher block = Pattern.compile("(?s)```java\n(.*?)```").matcher(readme);
        CHECK.due("an example stands in README.md", block.find(), true);
        example(block.group(1));
        for (Method m : FlumeOrders.class.getDeclaredMethods()) {
            if (Modifier.isPublic(m.getModifiers())) {
                boolean isTold = Pattern.compile("(?m)^\\|[^|]*`" + m.getName() + "`").matcher(readme).find();
                CHECK.due(m.getName() + " stands in the table of calls", isTold, true);
            }
        }
        CHECK.over("ReadmeTest");
    }

    private static void example(String source) throws Exception {
        List<String> due = new ArrayList<>();
        List<String> calls = new ArrayList<>();
        Matcher said = Pattern.compile("say\\((.*)\\); *// (-?\\d+):").matcher(source);
        while (said.find()) {
            calls.add(said.group(1));
            due.add(said.group(2));
        }
        List<String> got = run(source);
        CHECK.due("answers of the example", got.size(), due.size());
        for (int i = 0; i < due.size() && i < got.size(); i++) {
            CHECK.due(calls.get(i) + " in the example", Integer.parseInt(got.get(i)), Integer.parseInt(due.get(i)));
        }
    }

    /** The lines that it prints; it is compiled and run with the program that the tests run with. */
    private static List<String> run(String source) throws Exception {
        Path room = Files.createTempDirectory("readme");
        Path file = room.resolve("Example.java");
        PrintStream before = System.out;
        ByteArrayOutputStream printed = new ByteArrayOutputStream();
        try {
            Files.writeString(file, source);
            String classes = System.getProperty("java.class.path");
            int failed = ToolProvider.getSystemJavaCompiler().run(null, null, null, "-cp", classes, "-d", room.toString(),
                file.toString());
            CHECK.due("javac of the example", failed, 0);
            if (failed == 0) {
                try (URLClassLoader loader = new URLClassLoader(new URL[] {room.toUri().toURL()})) {
                    Method main = loader.loadClass("Example").getMethod("main", String[].class);
                    System.setOut(new PrintStream(printed, true));
                    main.invoke(null, (Object) new String[0]);
                }
            }
        } finally {
            System.setOut(before);
            remove(room);
        }
        return printed.toString().lines().toList();
    }

    private static void remove(Path room) throws IOException {
        for (String name : new String[] {"Example.java", "Example.class"}) {
            Files.deleteIfExists(room.resolve(name));
        }
        Files.deleteIfExists(room);
    }
}

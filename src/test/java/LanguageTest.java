import java.io.IOException;
import java.nio.file.Files;
import java.nio.file.Path;
import java.util.List;
import java.util.regex.Matcher;
import java.util.regex.Pattern;

/** Rules of ../shared/LANGUAGE.md that can be seen in the text of the program. */
public final class LanguageTest {
    private static final Check CHECK = new Check();
    private static final String LIBRARY = "java\\.util\\.(ArrayList|Arrays|Iterator|List|NoSuchElementException)";
    private static final String EXCEPTION = "(IllegalStateException|IllegalArgumentException|IndexOutOfBoundsException"
        + "|ArithmeticException|UnsupportedOperationException|NoSuchElementException|RuntimeException)";
    private static final List<String> NOT_THERE = List.of("package", "finally", "synchronized", "assert", "volatile", "native",
        "protected", "Object", "hashCode", "getMessage", "printStackTrace", "Thread", "Random", "\\w*Exact");

    public static void main(String[] args) throws IOException {
        String source = Files.readString(Path.of("src/main/java/FlumeOrders.java"));
        String code = source.replaceAll("(?s)/\\*.*?\\*/", "").replaceAll("//[^\n]*", "").replaceAll("\"[^\"\n]*\"", "\"\"");
        for (String word : NOT_THERE) {
            CHECK.due("'" + word + "' stands in the program", Pattern.compile("\\b" + word + "\\b").matcher(code).find(), false);
        }
        CHECK.due("signs above 127", source.chars().anyMatch(c -> c > 127), false);
        CHECK.due("method references", code.contains("::"), false);
        CHECK.due("static initialisers", code.matches("(?s).*\\bstatic\\s*\\{.*"), false);
        all(code, "^import ([^;]*);", LIBRARY);
        all(code, "\\bthrow\\b(.*)", " new " + EXCEPTION + "\\((\"\")?\\);");
        all(code, "\\bcatch \\((\\w+)", EXCEPTION);
        all(code, "\\bSystem\\b(\\.\\w+)", "\\.arraycopy");
        all(code, "(.*)->", "\\s*(case .*|default )");
        shortMethods(code);
        CHECK.over("LanguageTest");
    }

    /** What is found each time must be of a form. */
    private static void all(String code, String found, String form) {
        Matcher m = Pattern.compile(found, Pattern.MULTILINE).matcher(code);
        while (m.find()) {
            CHECK.due("'" + m.group().trim() + "' may stand in the program", m.group(1).matches(form), true);
        }
    }

    /** A member begins with four blanks, or eight inside a class, and ends with a brace that stands as deep. */
    private static void shortMethods(String code) {
        String[] lines = code.split("\n");
        for (int i = 0; i < lines.length; i++) {
            String line = lines[i];
            String indent = line.substring(0, line.length() - line.stripLeading().length());
            boolean begins = line.endsWith("{") && line.contains("(")
                && (indent.length() == 4 || indent.length() == 8 && !line.stripLeading().matches("(if|for|while|switch|do|\\}).*"));
            if (!begins) {
                continue;
            }
            int end = i;
            while (end < lines.length && !lines[end].equals(indent + "}")) {
                end++;
            }
            CHECK.due("lines of '" + line.trim() + "': " + (end - i + 1), end - i + 1 <= 60, true);
            CHECK.due("parameters of '" + line.trim() + "'", line.split(",").length <= 7, true);
        }
    }
}

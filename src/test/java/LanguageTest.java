import java.io.IOException;
import java.nio.file.Files;
import java.nio.file.Path;
import java.util.List;

/** Rules of ../shared/LANGUAGE.md that can be seen in the text of the program. */
public final class LanguageTest {
    private static final Check CHECK = new Check();
    private static final List<String> NOT_THERE = List.of("->", "::", "try", "catch", "finally", "synchronized", "assert",
        "instanceof", "package", "lambda", "equals", "hashCode", "toString", "Object", "protected", "double", "float",
        "static {", "volatile", "native", "System.out", "Thread", "Random", "nanoTime", "currentTimeMillis", "ArrayList");

    public static void main(String[] args) throws IOException {
        String source = Files.readString(Path.of("src/main/java/FlumeOrders.java"));
        String code = source.replaceAll("(?s)/\\*.*?\\*/", "").replaceAll("//[^\n]*", "").replaceAll("\"[^\"\n]*\"", "\"\"");
        for (String word : NOT_THERE) {
            boolean isWord = Character.isLetter(word.charAt(0));
            boolean isThere = isWord && Character.isLetter(word.charAt(word.length() - 1))
                ? code.matches("(?s).*\\b" + word + "\\b.*") : code.contains(word);
            CHECK.due("'" + word + "' stands in the program", isThere, false);
        }
        CHECK.due("imports", code.split("\nimport ", -1).length + (code.startsWith("import ") ? 1 : 0), 2);
        CHECK.due("signs above 127", source.chars().anyMatch(c -> c > 127), false);
        shortMethods(code);
        CHECK.over("LanguageTest");
    }

    /** A member begins with four blanks, or eight inside a class, and ends with a brace that stands as deep. */
    private static void shortMethods(String code) {
        String[] lines = code.split("\n");
        for (int i = 0; i < lines.length; i++) {
            String line = lines[i];
            String indent = line.substring(0, line.length() - line.stripLeading().length());
            boolean begins = line.endsWith("{") && line.contains("(")
                && (indent.length() == 4 || indent.length() == 8 && !line.stripLeading().matches("(if|for|while|switch|do|\\}).*"));
            if (!begins) {
                continue;
            }
            int end = i;
            while (end < lines.length && !lines[end].equals(indent + "}")) {
                end++;
            }
            CHECK.due("lines of '" + line.trim() + "': " + (end - i + 1), end - i + 1 <= 60, true);
            CHECK.due("parameters of '" + line.trim() + "'", line.split(",").length <= 7, true);
        }
    }
}

import java.io.IOException;
import java.nio.charset.StandardCharsets;
import java.nio.file.Files;
import java.nio.file.Path;
import java.util.List;
import java.util.Set;
import java.util.TreeSet;
import java.util.regex.Matcher;
import java.util.regex.Pattern;

/** The rules of ../shared/LANGUAGE.md that can be seen in the source's text. */
final class LanguageTest {
    private static final Path SOURCE = Path.of("src/main/java/PackedBits.java");
    private static final List<String> FORBIDDEN = List.of("throw", "throws", "try", "catch", "finally", "synchronized",
        "assert", "package", "import", "new Object", "double", "float", "Exception", "Error", "Random", "Thread",
        "currentTimeMillis", "nanoTime", "hashCode", "equals", "toString", "\\w+Exact", "var", "yield");
    private static final Set<String> LIBRARY = Set.of("Math.max", "Math.min", "Math.floorDiv", "Math.floorMod",
        "Integer.bitCount", "System.arraycopy");
    private static final int METHOD_LINES = 60;

    public static void main(String[] args) throws IOException {
        String source = Files.readString(SOURCE, StandardCharsets.ISO_8859_1);
        String code = source.replaceAll("(?s)/\\*.*?\\*/", "").replaceAll("//[^\n]*", "");
        Due.holds("signs 1 to 127 alone", source.chars().allMatch(sign -> sign >= 1 && sign <= 127));
        for (String word : FORBIDDEN) {
            Due.holds("no " + word, !Pattern.compile("\\b" + word + "\\b").matcher(code).find());
        }
        Due.holds("no lambda", !code.contains("->"));
        Due.holds("no method reference", !code.contains("::"));
        Due.holds("no texts", !code.contains("\""));
        library(code);
        methodLines(source);
        Due.finish("LanguageTest");
    }

    private static void library(String code) {
        Set<String> used = new TreeSet<>();
        Matcher calls = Pattern.compile("\\b(Math|Integer|Long|System|Arrays|String|Character)\\.\\w+").matcher(code);
        while (calls.find()) {
            used.add(calls.group());
        }
        used.removeAll(LIBRARY);
        Due.holds("nothing of the library but what is listed: " + used, used.isEmpty());
    }

    private static void methodLines(String source) {
        String[] lines = source.split("\n");
        for (int first = 0; first < lines.length; first++) {
            Matcher head = Pattern.compile("( {4}| {8})\\S.*\\) \\{").matcher(lines[first]);
            if (head.matches()) {
                int last = first;
                while (!lines[last].equals(head.group(1) + "}")) {
                    last++;
                }
                Due.holds("short: " + lines[first].trim(), last - first < METHOD_LINES);
            }
        }
    }
}

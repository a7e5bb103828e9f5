import java.io.IOException;
import java.nio.charset.StandardCharsets;
import java.nio.file.Files;
import java.nio.file.Path;
import java.util.ArrayList;
import java.util.List;
import java.util.Map;
import java.util.TreeMap;
import java.util.regex.Matcher;
import java.util.regex.Pattern;

/** The sentences of ../shared/DOC.md, by their sections. */
final class Document {
    static final int PROMISES = 23;
    private static final Path PLACE = Path.of("../shared/DOC.md");
    private final String all;

    Document() throws IOException {
        all = Files.readString(PLACE, StandardCharsets.UTF_8);
    }

    /** The text between a heading and the next one of the same depth. */
    private String section(String heading) {
        int begin = all.indexOf("\n" + heading) + 1;
        if (begin == 0) {
            throw new IllegalStateException("no section " + heading);
        }
        String depth = heading.substring(0, heading.indexOf(' ') + 1);
        int end = all.indexOf("\n" + depth, begin);
        return all.substring(all.indexOf('\n', begin) + 1, end < 0 ? all.length() : end);
    }

    private String promise(int number) {
        return section("## Promise " + number + ":");
    }

    /** Each method of the public face with the number of its parameters. */
    Map<String, Integer> methods() {
        Map<String, Integer> methods = new TreeMap<>();
        Matcher method = Pattern.compile("public int (\\w+)\\(([^)]*)\\);").matcher(section("## The public face"));
        while (method.find()) {
            methods.put(method.group(1), method.group(2).isEmpty() ? 0 : method.group(2).split(",").length);
        }
        return methods;
    }

    /** Each constant of the public face with its value. */
    Map<String, Integer> constants() {
        Map<String, Integer> constants = new TreeMap<>();
        Matcher constant = Pattern.compile("public static final int (\\w+) = (-?\\d+);").matcher(section("## The public face"));
        while (constant.find()) {
            constants.put(constant.group(1), Integer.valueOf(constant.group(2)));
        }
        return constants;
    }

    /** The call of a promise with the names of its arguments. */
    String callOf(int promise) {
        String head = promise(promise).replaceAll("(?s)^\\s*`int ([^`]*)`.*", "$1");
        return head.replace("int ", "");
    }

    boolean isAction(int promise) {
        return promise(promise).contains("his is an action.");
    }

    /** Tells whether words stand in a promise or in what all promises lean on. */
    boolean says(int promise, String words) {
        String sought = plain(words);
        return plain(promise(promise)).contains(sought) || plain(section("## Terms")).contains(sought)
            || plain(section("## What it is")).contains(sought);
    }

    static String plain(String words) {
        return words.replaceAll("\\s+", " ").replaceAll("[.;:]$", "").trim();
    }

    /** What a promise says of its method, of each argument and of each answer. */
    List<String> clausesOf(int promise) {
        return clauses(promise(promise).replaceAll("(?m)^`[^`]*`: ", "").replaceAll("(?m)^- ", ""), "(?<=[.;])\\s+|\n+");
    }

    /** What the terms say, but for the headings and the lines that say nothing of a call. */
    List<String> clausesOfTerms() {
        String terms = section("## Terms").replaceAll("(?s)```.*?```", "");
        List<String> clauses = clauses(terms, "(?<=[.;:])\\s+|\n+");
        clauses.removeIf(clause -> clause.startsWith("#") || clause.startsWith("Ahead of the calls")
            || clause.equals("All numbers are whole") || clause.startsWith("the interface says") || clause.startsWith("---- "));
        return clauses;
    }

    private static List<String> clauses(String words, String between) {
        List<String> clauses = new ArrayList<>();
        for (String clause : words.split(between)) {
            if (!clause.isBlank()) {
                clauses.add(plain(clause));
            }
        }
        return clauses;
    }
}

import java.io.IOException;
import java.nio.file.DirectoryStream;
import java.nio.file.Files;
import java.nio.file.Path;
import java.util.Arrays;
import java.util.Map;
import java.util.TreeMap;
import java.util.regex.Matcher;
import java.util.regex.Pattern;

/** Each sentence of the document stands quoted in a test; the face and the heads are for RulesTest. */
public final class QuotesTest {
    private static final Pattern QUOTE = Pattern.compile("Checks\\.says\\((\\d+), \"([^\"\\\\]*)\"\\)");
    private static final Pattern SAYS = Pattern.compile("Checks\\.says\\(");
    private static final Pattern PROMISE = Pattern.compile("## Promise (\\d+): \\w+ ");
    /** What isn't a sentence with a test of its own to fail. */
    private static final String[] NO_SENTENCES = {
        "```java.*?```", "```text", "```", "## What it is A quarter round .*? told in a text\\.", "# TideQuarter",
        "## The public face", "## Terms", "## Promise \\d+: A new object", "`TideQuarter\\(\\)`:",
        "Ahead of the calls [^.]* the interface says: ---- [a-z ]+\\.", "## Promise \\d+: \\w+ `(int|long) \\w+\\([^)]*\\)`:",
        " [123]\\. ",
    };

    private static int passed = 0;
    private static int failed = 0;

    private static void due(String what, boolean holds) {
        if (holds) {
            passed++;
        } else {
            failed++;
            System.out.println(what);
        }
    }

    private static Map<Integer, String> parts(String document) {
        Map<Integer, String> parts = new TreeMap<>();
        int from = 0;
        int number = 0;
        Matcher head = PROMISE.matcher(document);
        while (head.find()) {
            parts.put(number, document.substring(from, head.start()));
            from = head.start();
            number = Integer.parseInt(head.group(1));
        }
        int end = document.indexOf("## Not promised");
        due("the document has an end", end > from);
        parts.put(number, document.substring(from, Math.max(end, from)));
        return parts;
    }

    private static void takeQuotes(Map<Integer, String> parts, Map<Integer, String> left) throws IOException {
        try (DirectoryStream<Path> tests = Files.newDirectoryStream(Path.of("src/test/java"), "*.java")) {
            for (Path test : tests) {
                String text = Files.readString(test);
                Matcher quote = QUOTE.matcher(text);
                int many = 0;
                while (quote.find()) {
                    int number = Integer.parseInt(quote.group(1));
                    take(parts, left, number, quote.group(2));
                    many++;
                }
                boolean own = test.endsWith("QuotesTest.java");
                due(test + " quotes in one line", own || many == SAYS.matcher(text).results().count());
            }
        }
    }

    /** A quote may begin within another, so each is looked up in the whole part. */
    private static void take(Map<Integer, String> parts, Map<Integer, String> left, int number, String quote) {
        String part = parts.get(number);
        String sentence = quote.replaceAll("\\s+", " ");
        if (part == null || !part.contains(sentence)) {
            due("promise " + number + " doesn't say '" + sentence + "'", false);
            return;
        }
        char[] rest = left.get(number).toCharArray();
        for (int at = part.indexOf(sentence); at >= 0; at = part.indexOf(sentence, at + 1)) {
            Arrays.fill(rest, at, at + sentence.length(), '|');
        }
        left.put(number, new String(rest));
    }

    public static void main(String[] args) throws IOException {
        String document = Files.readString(Path.of("../shared/DOC.md")).replaceAll("\\s+", " ");
        Map<Integer, String> parts = parts(document);
        Map<Integer, String> left = new TreeMap<>(parts);
        takeQuotes(parts, left);
        for (Map.Entry<Integer, String> part : left.entrySet()) {
            String rest = part.getValue();
            for (String no : NO_SENTENCES) {
                rest = rest.replaceAll(no, "|");
            }
            StringBuilder unquoted = new StringBuilder();
            for (String piece : rest.split("\\|")) {
                unquoted.append(piece.matches(".*\\w.*") ? "\n    " + piece.trim() : "");
            }
            due("promise " + part.getKey() + " (0: ahead of all), quoted in no test:" + unquoted, unquoted.isEmpty());
        }
        due("the document has 44 promises", parts.size() == 45 && parts.containsKey(44));
        System.out.println(passed + " passed, " + failed + " failed");
        if (failed != 0) {
            System.exit(1);
        }
    }
}

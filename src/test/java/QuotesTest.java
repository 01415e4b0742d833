import java.io.IOException;
import java.nio.file.Files;
import java.nio.file.Path;
import java.util.ArrayList;
import java.util.List;
import java.util.TreeMap;
import java.util.regex.Matcher;
import java.util.regex.Pattern;

/** The remarks beside the tests of the edges: each quotes the document word by word, and no sentence is left out. */
final class QuotesTest {
    private static final Path DOCUMENT = Path.of("../shared/DOC.md");
    private static final List<String> TESTS = List.of("EdgesTextsTest", "EdgesMorningsTest", "EdgesAskedTest");
    private static final Pattern QUOTE = Pattern.compile("(Promise \\d+|Terms|Behind Terms): \"([^\"]*)\"");
    private static final int PROMISES = 57;
    private static final Check check = new Check();

    private static String plain(String text) {
        return text.replace("```text", " ").replace("```", " ").replaceAll("\\s+", " ");
    }

    private static String between(String text, String from, String to) {
        int begin = text.indexOf(from);
        int end = to.isEmpty() ? text.length() : text.indexOf(to, begin);
        return begin < 0 || end < 0 ? "" : plain(text.substring(begin, end));
    }

    private static String paragraph(String document, String name) {
        if (name.equals("Terms")) return between(document, "## Terms", "Of several exceptions");
        if (name.equals("Behind Terms")) return between(document, "Of several exceptions", "## Promise 1:");
        int number = Integer.parseInt(name.substring("Promise ".length()));
        return between(document, "## " + name + ":", number < PROMISES ? "## Promise " + (number + 1) + ":" : "## Not promised");
    }

    /** All remarks of a file, each in one piece. */
    private static String remarks(String test) throws IOException {
        StringBuilder b = new StringBuilder();
        for (String line : Files.readAllLines(Path.of("src/test/java/" + test + ".java"))) {
            String text = line.trim();
            b.append(text.startsWith("//") ? " " + text.substring(2).trim() : "\n");
        }
        return b.toString();
    }

    private static String name(int number) {
        return number == 0 ? "Terms" : number > PROMISES ? "Behind Terms" : "Promise " + number;
    }

    /** What no remark quotes of a paragraph, but for its headings and the line of the face. */
    private static String notQuoted(String text, List<String> quotes) {
        StringBuilder left = new StringBuilder(text.replaceAll("## Promise \\d+: [\\w ]+`[^`]*`:|## Terms|==== \\d\\.", ""));
        String whole = left.toString();
        for (String quote : quotes) {
            for (int at = whole.indexOf(quote); at >= 0; at = whole.indexOf(quote, at + 1)) {
                for (int i = at; i < at + quote.length(); i++) left.setCharAt(i, ' ');
            }
        }
        return left.toString().replaceAll("[^A-Za-z0-9]+", " ").trim();
    }

    public static void main(String[] args) throws IOException {
        String document = Files.readString(DOCUMENT);
        TreeMap<String, List<String>> quotes = new TreeMap<>();
        for (String test : TESTS) {
            Matcher m = QUOTE.matcher(remarks(test));
            while (m.find()) {
                quotes.computeIfAbsent(m.group(1), k -> new ArrayList<>()).add(m.group(2));
                check.same(test + ": " + m.group(), paragraph(document, m.group(1)).contains(m.group(2)), true);
            }
        }
        for (int i = 0; i <= PROMISES + 1; i++) {
            List<String> own = quotes.getOrDefault(name(i), List.of());
            check.same("not quoted of " + name(i), notQuoted(paragraph(document, name(i)), own), "");
        }
        check.end("QuotesTest");
    }
}

import java.io.IOException;
import java.nio.file.Files;
import java.nio.file.Path;
import java.util.List;
import java.util.regex.Matcher;
import java.util.regex.Pattern;
import java.util.stream.Collectors;
import java.util.stream.Stream;

/** That each sentence of the document's terms and promises is quoted by a test of edges. */
public final class SentencesTest {
    private static final Path TESTS = Path.of("src/test/java");
    private static final Pattern LITERAL = Pattern.compile("\"((?:[^\"\\\\]|\\\\.)*)\"");
    private static final Pattern QUOTE = Pattern.compile("t\\.says\\(((?:\\s*\\+?\\s*" + LITERAL + ")+)\\)");
    /** What is no sentence: headings, the calls' own lines, and the marks of the parts. */
    private static final String FRAME = "## .*|`[^`]*\\([^`]*`:|====\\s+\\w+\\.|```(text)?";

    public static void main(String[] args) throws IOException {
        Checks checks = new Checks();
        String document = Edges.rawDocument();
        if (document.isEmpty()) {
            checks.due("there is no document at hand", true, true);
        } else {
            int from = document.indexOf("## Terms");
            int to = document.indexOf("## Not promised");
            checks.due("terms and promises", from >= 0 && to > from, true);
            boolean[] isQuoted = new boolean[to - from];
            // Each frame is cut by a sign that no quote has, so that none goes on across it.
            String sentences = Edges.flat(document.substring(from, to).replaceAll(FRAME, "\u0001"));
            for (Path test : tests()) {
                quotes(Files.readString(test), sentences, isQuoted);
            }
            unquoted(checks, sentences, isQuoted);
        }
        checks.end();
    }

    private static List<Path> tests() throws IOException {
        try (Stream<Path> files = Files.list(TESTS)) {
            return files.filter(file -> file.toString().endsWith("EdgesTest.java")).collect(Collectors.toList());
        }
    }

    private static void quotes(String source, String sentences, boolean[] isQuoted) {
        Matcher says = QUOTE.matcher(source);
        while (says.find()) {
            StringBuilder quote = new StringBuilder();
            Matcher literal = LITERAL.matcher(says.group(1));
            while (literal.find()) {
                quote.append(literal.group(1));
            }
            String flat = Edges.flat(quote.toString());
            for (int at = sentences.indexOf(flat); at >= 0; at = sentences.indexOf(flat, at + 1)) {
                for (int i = 0; i < flat.length(); i++) {
                    isQuoted[at + i] = true;
                }
            }
        }
    }

    private static void unquoted(Checks checks, String sentences, boolean[] isQuoted) {
        StringBuilder rest = new StringBuilder();
        for (int i = 0; i <= sentences.length(); i++) {
            if (i < sentences.length() && !isQuoted[i]) {
                rest.append(sentences.charAt(i));
                continue;
            }
            if (rest.length() > 0) {
                checks.due("a test quotes: " + rest, rest.toString().matches(".*\\w.*"), false);
                rest.setLength(0);
            }
        }
    }
}

import java.io.IOException;
import java.nio.file.Files;
import java.nio.file.Path;
import java.util.ArrayList;
import java.util.List;
import java.util.regex.Matcher;
import java.util.regex.Pattern;

/** Every word of the Terms and of each promise stands in a sentence that a test names, and no test names another. */
public final class DocumentTest {
    private static final Path DOCUMENT = Path.of("../shared/DOC.md");
    private static final Path TESTS = Path.of("src/test/java");
    private static final int PROMISES = 24;

    private static final Pattern NAMED = Pattern.compile("check\\.sentence\\((.*?)\\);\n", Pattern.DOTALL);
    private static final Pattern WORDS = Pattern.compile("\"([^\"]*)\"");
    private static final Pattern CALLED = Pattern.compile("private static void (\\w+)\\(\\) \\{");

    private static final Check check = new Check();

    public static void main(String[] args) throws IOException {
        String document = Files.readString(DOCUMENT).replaceAll("\\s+", " ");
        covered("Terms", between(document, "## Terms ", "## Promise 1:"),
            "TermsComplexTest", "TermsProductsTest", "TermsTextsTest");
        for (int promise = 1; promise <= PROMISES; promise++) {
            String head = "## Promise " + promise + ": ";
            String next = promise < PROMISES ? "## Promise " + (promise + 1) + ": " : "## Not promised";
            String body = between(document, head, next).replaceFirst("^[^`]*`[^`]*`: ", "");
            covered("Promise " + promise, body, String.format("Promise%02dTest", promise));
        }
        check.finish();
    }

    private static String between(String document, String from, String to) {
        int start = document.indexOf(from);
        int end = document.indexOf(to);
        check.hold("the document has '" + from + "' and '" + to + "' behind it", start >= 0 && end > start);
        return start >= 0 && end > start ? document.substring(start + from.length(), end) : "";
    }

    private static void covered(String head, String body, String... tests) throws IOException {
        // The numbers of the Terms' parts and the signs around a block are no sentences.
        StringBuilder left = new StringBuilder(body.replaceAll("==== \\d\\.|```text", "       "));
        for (String test : tests) {
            String source = Files.readString(TESTS.resolve(test + ".java"));
            everyTestIsCalled(test, source);
            for (String words : sentences(source)) {
                int place = body.indexOf(words);
                check.hold(test + ": '" + words + "' stands under " + head, place >= 0);
                for (int i = place; place >= 0 && i < place + words.length(); i++) {
                    left.setCharAt(i, ' ');
                }
            }
        }
        String untested = left.toString().replaceAll("[^A-Za-z0-9]+", " ").trim();
        check.hold(head + " has no words without a test: " + untested, untested.isEmpty());
    }

    private static List<String> sentences(String source) {
        List<String> found = new ArrayList<>();
        Matcher named = NAMED.matcher(source);
        while (named.find()) {
            Matcher words = WORDS.matcher(named.group(1));
            while (words.find()) {
                found.add(words.group(1));
            }
        }
        return found;
    }

    private static void everyTestIsCalled(String test, String source) {
        Matcher made = CALLED.matcher(source);
        while (made.find()) {
            check.hold(test + " calls " + made.group(1), source.contains("        " + made.group(1) + "();\n"));
        }
    }
}

import java.io.IOException;
import java.nio.charset.StandardCharsets;
import java.nio.file.Files;
import java.nio.file.Path;
import java.util.ArrayList;
import java.util.Arrays;
import java.util.List;

/**
 * The tests of sentences against the document itself: what a test quotes stands there, and each word of the
 * Terms and of the promises is quoted by a test. It is run from the project's root.
 */
final class DocumentTest {
    private static final Path DOCUMENT = Path.of("../shared/DOC.md");
    private static final int PROMISES = 16;

    private DocumentTest() {
    }

    public static void main(String[] args) throws IOException {
        String document = Files.readString(DOCUMENT, StandardCharsets.UTF_8);
        List<Sentences.Test> tests = new ArrayList<>();
        tests.addAll(TermsTest.sentences().tests());
        tests.addAll(CircuitPromisesTest.sentences().tests());
        tests.addAll(ProofPromisesTest.sentences().tests());
        dueQuoted(document, "What it is", tests, false);
        dueQuoted(document, "Terms", tests, true);
        for (int promise = 1; promise <= PROMISES; promise++) {
            dueQuoted(document, "Promise " + promise, tests, true);
        }
        Due.that("the document has no promise " + (PROMISES + 1), !document.contains("Promise " + (PROMISES + 1)));
        Due.end();
    }

    private static void dueQuoted(String document, String section, List<Sentences.Test> tests, boolean whole) {
        String text = textOf(document, section);
        char[] left = text.toCharArray();
        for (Sentences.Test test : tests) {
            if (test.section().equals(section)) {
                int at = text.indexOf(test.words());
                Due.that(section + " says '" + test.words() + "'", at >= 0);
                if (at >= 0) {
                    Arrays.fill(left, at, at + test.words().length(), ' ');
                }
            }
        }
        if (whole) {
            String unquoted = new String(left).replaceAll("[^A-Za-z0-9]+", " ").trim();
            Due.same(section + ": what no test quotes", "", unquoted);
        }
    }

    /** What stands under the section's heading, on one line; a promise's signature is left to FaceTest. */
    private static String textOf(String document, String section) {
        for (String part : document.split("(?m)^## ")) {
            String heading = part.lines().findFirst().orElse("");
            if (heading.equals(section) || heading.startsWith(section + ":")) {
                String body = part.substring(heading.length()).replaceAll("\\s+", " ").trim();
                return body.replaceFirst("^`[^`]*`: ", "");
            }
        }
        return "";
    }
}

import java.util.ArrayList;
import java.util.List;

/** Tests by sentence: each bears the words of the document that it would show to be broken. */
final class Sentences {
    record Test(String section, String words, String edge, Runnable body) {
    }

    private final List<Test> tests = new ArrayList<>();
    private String section = "";

    /** The tests that follow are of this section of the document. */
    void section(String name) {
        section = name;
    }

    void test(String words, String edge, Runnable body) {
        tests.add(new Test(section, words, edge, body));
    }

    List<Test> tests() {
        return tests;
    }

    void run() {
        for (Test test : tests) {
            Due.inTest(test.section() + ", " + test.edge(), test.body());
        }
        System.out.println(tests.size() + " tests of sentences");
        Due.end();
    }
}

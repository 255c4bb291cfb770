import java.io.IOException;
import java.lang.reflect.Method;
import java.lang.reflect.Modifier;
import java.nio.charset.StandardCharsets;
import java.nio.file.DirectoryStream;
import java.nio.file.Files;
import java.nio.file.Path;
import java.util.regex.Matcher;
import java.util.regex.Pattern;

/** README.md tells what holds: its example is run, and its tables name all calls and tests. Run from the root. */
final class ReadmeTest {
    private static final Path PAGE = Path.of("README.md");
    private static final Path TESTS = Path.of("src/test/java");

    /** A call of the example and the number with which its remark begins. */
    private static final Pattern CALL = Pattern.compile("(?m)^x\\.(\\w+)\\(([^)]*)\\); *// (-?\\d+)\\b.*$");

    private ReadmeTest() {
    }

    public static void main(String[] args) throws IOException {
        String page = Files.readString(PAGE, StandardCharsets.UTF_8);
        dueExample(page);
        for (Method method : GatePolynomials.class.getDeclaredMethods()) {
            if (Modifier.isPublic(method.getModifiers())) {
                String row = "| `" + method.getName() + "(";
                Due.that("the table has " + method.getName(), page.contains(row));
            }
        }
        try (DirectoryStream<Path> tests = Files.newDirectoryStream(TESTS, "*Test.java")) {
            for (Path test : tests) {
                String name = test.getFileName().toString().replace(".java", "");
                Due.that("the table has " + name, page.contains("| `" + name + "` |"));
            }
        }
        Due.end();
    }

    private static void dueExample(String page) {
        GatePolynomials x = new GatePolynomials();
        Matcher call = CALL.matcher(page);
        int calls = 0;
        while (call.find()) {
            calls++;
            String name = call.group(1);
            String arguments = call.group(2);
            Due.answer("x." + name + "(" + arguments + ")", Long.parseLong(call.group(3)),
                    () -> answer(x, name, arguments));
        }
        Due.that("each line of the example is a call with its answer", calls == page.split("(?m)^x\\.").length - 1);
    }

    private static long answer(GatePolynomials x, String name, String arguments) {
        String[] written = arguments.isEmpty() ? new String[0] : arguments.split(", *");
        Class<?>[] types = new Class<?>[written.length];
        Object[] values = new Object[written.length];
        for (int i = 0; i < written.length; i++) {
            types[i] = int.class;
            values[i] = number(written[i]);
        }
        try {
            return ((Number) GatePolynomials.class.getMethod(name, types).invoke(x, values)).longValue();
        } catch (ReflectiveOperationException e) {
            throw new IllegalStateException("no such call, or it throws: " + e, e);
        }
    }

    private static int number(String written) {
        return written.startsWith("0b") ? Integer.parseInt(written.substring(2), 2) : Integer.parseInt(written);
    }
}

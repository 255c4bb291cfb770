import java.io.IOException;
import java.lang.reflect.Field;
import java.lang.reflect.Method;
import java.lang.reflect.Modifier;
import java.nio.charset.StandardCharsets;
import java.nio.file.Files;
import java.nio.file.Path;
import java.util.Arrays;
import java.util.List;
import java.util.Set;
import java.util.regex.Matcher;
import java.util.regex.Pattern;

/** Those rules of LANGUAGE.md that can be seen in the text of the program; it is run from the project's root. */
final class LanguageTest {
    private static final Path SOURCE = Path.of("src/main/java/GatePolynomials.java");

    /** Words and signs that the rules leave out, by rule; the text has no comments, and its constants are empty. */
    private static final String[][] LEFT_OUT = {
        {"1", "\\bpackage\\b|\\bprotected\\b"},
        {"2", "(?<!case .{0,80}|default )->|::"},
        {"3", "\\bObject\\b"},
        {"4", "Exact\\b|\\bString\\.format\\b|\\bSystem\\.(?!arraycopy\\b)|\\bjava\\.(?!util\\.)"},
        {"5", "\\bstatic\\s*\\{"},
        {"6", "\\bsynchronized\\b|\\bassert\\b|\\bfinally\\b|\\btry\\s*\\(|\\bhashCode\\b|\\bgetMessage\\b"},
        {"9", "\\bwhile\\s*\\(\\s*true\\b|\\bfor\\s*\\(\\s*;\\s*;"},
        {"10", "\"\\s*\\+|\\+=?\\s*\""},
        {"13", "\\bRandom\\b|currentTimeMillis|nanoTime|\\bThread\\b|\\bFile\\b|getenv|getProperty"},
    };

    private static final Set<String> LIBRARY = Set.of("java.util.Arrays", "java.util.ArrayList", "java.util.List",
            "java.util.Iterator", "java.util.NoSuchElementException");

    /** Of rule 4's static functions those that it names; their like are put here when they are used. */
    private static final Set<String> FUNCTIONS = Set.of("System.arraycopy", "Arrays.copyOf", "Arrays.copyOfRange",
            "Arrays.fill", "List.of", "Integer.compare", "Integer.max", "Integer.min", "Integer.abs",
            "Integer.bitCount", "Long.compare", "Long.max", "Long.min", "Long.abs", "Long.bitCount", "Math.max",
            "Math.min", "Math.abs", "Math.floorDiv", "Math.floorMod");

    private static final Set<String> EXCEPTIONS = Set.of("IllegalStateException", "IllegalArgumentException",
            "IndexOutOfBoundsException", "ArithmeticException", "UnsupportedOperationException",
            "NoSuchElementException", "RuntimeException");

    private LanguageTest() {
    }

    public static void main(String[] args) throws IOException {
        List<String> lines = Files.readAllLines(SOURCE, StandardCharsets.US_ASCII);
        String code = withoutComments(String.join("\n", lines));
        for (String[] rule : LEFT_OUT) {
            Matcher found = Pattern.compile(rule[1]).matcher(withoutTexts(code));
            Due.same("rule " + rule[0], "", found.find() ? found.group() : "");
        }
        dueImports(code);
        dueFunctions(withoutTexts(code));
        dueThrows(code);
        dueMethodLengths(lines);
        dueSizes();
        Due.end();
    }

    private static void dueImports(String code) {
        Matcher imports = Pattern.compile("\\bimport\\s+([\\w.*]+);").matcher(code);
        while (imports.find()) {
            Due.that("rule 4: import " + imports.group(1), LIBRARY.contains(imports.group(1)));
        }
    }

    private static void dueFunctions(String code) {
        Matcher functions = Pattern.compile("\\b(?:System|Arrays|List|Integer|Long|Math|String)\\.\\w+").matcher(code);
        while (functions.find()) {
            Due.that("rule 4: " + functions.group(), FUNCTIONS.contains(functions.group()));
        }
    }

    private static void dueThrows(String code) {
        Matcher thrown = Pattern.compile("\\bthrow\\b(?: new (\\w+)\\((\"[^\"]*\")?\\);)?").matcher(code);
        while (thrown.find()) {
            Due.that("rule 6: " + thrown.group(),
                    thrown.group(1) != null && EXCEPTIONS.contains(thrown.group(1)));
        }
    }

    /** Methods of the class stand four signs in, those of the classes inside it eight. */
    private static void dueMethodLengths(List<String> lines) {
        for (String margin : new String[] {"    ", "        "}) {
            int start = -1;
            for (int i = 0; i < lines.size(); i++) {
                String line = lines.get(i);
                if (line.startsWith(margin) && !line.startsWith(margin + " ") && line.endsWith(" {")) {
                    start = i;
                }
                if (line.equals(margin + "}") && start >= 0) {
                    boolean type = lines.get(start).matches(".*\\b(class|record|enum|interface) .*");
                    Due.that("rule 11: " + lines.get(start).trim(), type || i - start < 60);
                    start = -1;
                }
            }
        }
    }

    private static void dueSizes() {
        Class<?>[] inside = GatePolynomials.class.getDeclaredClasses();
        Due.that("rule 11: twelve classes", inside.length < 12);
        Class<?>[] all = Arrays.copyOf(inside, inside.length + 1);
        all[inside.length] = GatePolynomials.class;
        for (Class<?> one : all) {
            int fields = 0;
            for (Field field : one.getDeclaredFields()) {
                fields += Modifier.isStatic(field.getModifiers()) ? 0 : 1;
            }
            Due.that("rule 11: fields of " + one.getName(), fields <= 20);
            for (Method method : one.getDeclaredMethods()) {
                Due.that("rule 11: parameters of " + method.getName(), method.getParameterCount() <= 7);
            }
        }
    }

    private static String withoutComments(String text) {
        return text.replaceAll("(?s)/\\*.*?\\*/", " ").replaceAll("//[^\n]*", " ");
    }

    private static String withoutTexts(String code) {
        return code.replaceAll("\"[^\"\n]*\"", "\"\"");
    }
}

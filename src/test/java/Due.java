import java.util.NoSuchElementException;

/** What the tests share: a call is held against the answer or the exception that is due, and counted. */
final class Due {
    static final Class<IllegalArgumentException> ARGUMENT = IllegalArgumentException.class;
    static final Class<IllegalStateException> STATE = IllegalStateException.class;
    static final Class<IndexOutOfBoundsException> INDEX = IndexOutOfBoundsException.class;
    static final Class<ArithmeticException> ARITHMETIC = ArithmeticException.class;
    static final Class<NoSuchElementException> NO_ELEMENT = NoSuchElementException.class;

    private static final int MOST_TOLD = 20;

    private static String test = "";
    private static int right = 0;
    private static int wrong = 0;
    private static int toldInTest = 0;

    interface Call {
        long answer();
    }

    private Due() {
    }

    /** Runs a test under its name: what it finds wrong bears the name, and so does a throw that nobody awaited. */
    static void inTest(String name, Runnable body) {
        test = name + ": ";
        toldInTest = 0;
        int before = right + wrong;
        try {
            body.run();
        } catch (RuntimeException e) {
            count("the test itself", e.toString(), "no exception");
        }
        count("the test holds something", Boolean.toString(right + wrong > before), "true");
        test = "";
    }

    static void that(String what, boolean holds) {
        count(what, Boolean.toString(holds), "true");
    }

    /** Of long texts only the place is told where they begin to differ. */
    static void same(String what, String want, String got) {
        int from = 0;
        while (from < want.length() && from < got.length() && want.charAt(from) == got.charAt(from)) {
            from++;
        }
        count(what, excerpt(got, from), excerpt(want, from));
    }

    static void answer(String call, long want, Call made) {
        count(call, outcome(made), Long.toString(want));
    }

    static void thrown(String call, Class<? extends RuntimeException> want, Call made) {
        count(call, outcome(made), want.getName());
    }

    /** The answer in digits, or the name of the exception's class. */
    static String outcome(Call made) {
        try {
            return Long.toString(made.answer());
        } catch (RuntimeException e) {
            return e.getClass().getName();
        }
    }

    static void end() {
        System.out.println(right + " answers right, " + wrong + " wrong");
        if (wrong > 0 || right == 0) {
            System.exit(1);
        }
    }

    private static String excerpt(String text, int middle) {
        int from = middle > 60 ? middle - 40 : 0;
        int to = Math.min(text.length(), middle + 60);
        return (from > 0 ? ".. " : "") + text.substring(from, to) + (to < text.length() ? " .." : "");
    }

    private static void count(String what, String got, String want) {
        if (got.equals(want)) {
            right++;
            return;
        }
        wrong++;
        toldInTest++;
        if (toldInTest <= MOST_TOLD) {
            System.out.println(test + what + " answered " + got + ", due is " + want);
        }
    }
}

/** What the tests share: a call is held against the answer or the exception that is due, and counted. */
final class Due {
    private static int right = 0;
    private static int wrong = 0;

    interface Call {
        long answer();
    }

    private Due() {
    }

    static void that(String what, boolean holds) {
        count(what, Boolean.toString(holds), "true");
    }

    static void answer(String call, long want, Call made) {
        count(call, outcome(made), Long.toString(want));
    }

    static void thrown(String call, Class<? extends RuntimeException> want, Call made) {
        count(call, outcome(made), want.getName());
    }

    /** The outcome that is due is given as outcome tells it. */
    static void outcomeIs(String call, String want, Call made) {
        count(call, outcome(made), want);
    }

    /** The answer in digits, or the name of the exception's class. */
    static String outcome(Call made) {
        try {
            return Long.toString(made.answer());
        } catch (RuntimeException e) {
            return e.getClass().getName();
        }
    }

    static void end() {
        System.out.println(right + " answers right, " + wrong + " wrong");
        if (wrong > 0 || right == 0) {
            System.exit(1);
        }
    }

    private static void count(String what, String got, String want) {
        if (got.equals(want)) {
            right++;
            return;
        }
        wrong++;
        if (wrong <= 50) {
            System.out.println(what + " answered " + got + ", due is " + want);
        }
    }
}

import java.util.TreeMap;

/** Long runs of all sorts of calls, held call by call against the model. */
final class ModelTest {
    private static final int CALLS = 512;

    /** How often an answer that is hard to come by came by, so that the runs are known to reach it. */
    private static final TreeMap<String, Integer> REACHED = new TreeMap<>();

    private final Numbers numbers;
    private final GatePolynomials x = new GatePolynomials();
    private final Model model = new Model();
    private final int style;
    private final String run;

    private ModelTest(int run) {
        this.run = "run " + run;
        numbers = new Numbers(run);
        style = run % 5;
    }

    public static void main(String[] args) {
        for (int run = 0; run < 800; run++) {
            new ModelTest(run).calls();
        }
        String[] due = {"input STATE", "gate STATE", "gate ARGUMENT", "add STATE", "add ARGUMENT",
            "simulate ARGUMENT", "prove ARITHMETIC", "prove 0", "prove 40 in a line", "spoil ARITHMETIC",
            "spoil INDEX", "spoil STATE", "monomial INDEX", "coefficient INDEX", "size INDEX", "check 0",
            "check 1", "check 2", "check 3", "check 4", "check 5", "check all", "witness NO_ELEMENT", "witness 0",
            "witness 1", "witness 2", "witness 3", "witness STATE", "clear"};
        for (String answer : due) {
            Due.that("the runs reach '" + answer + "' five times", REACHED.getOrDefault(answer, 0) >= 5);
        }
        Due.end();
    }

    private void calls() {
        for (int call = 0; call < CALLS; call++) {
            int n = model.wires();
            int wanted = style == 0 ? 3 : style == 1 ? 5 : 9;
            int pick = numbers.below(100);
            if (n < wanted && pick < 30) {
                makeWire();
            } else if (pick < 45) {
                changeClaim();
            } else if (pick < 60) {
                prove();
            } else if (pick < 75) {
                spoilOrCheck();
            } else if (pick < 99) {
                look();
            } else if (numbers.below(100) < 60) {
                hold("clear", "clear()", x::clear, model::clear);
            } else {
                makeWire();
            }
        }
    }

    private void makeWire() {
        boolean input = style == 4 ? numbers.below(5) == 0 : numbers.below(2) == 0;
        if (input) {
            hold("input", "input()", x::input, model::input);
            return;
        }
        int kind = numbers.strange() ? numbers.below(7) - 2 : numbers.below(4);
        int a = literal();
        int b = literal();
        int c = numbers.below(3) == 0 ? numbers.below(40) - 10 : literal();
        hold("gate", "gate(" + kind + ", " + a + ", " + b + ", " + c + ")",
                () -> x.gate(kind, a, b, c), () -> model.gate(kind, a, b, c));
    }

    private void changeClaim() {
        if (model.lines() > 0 && numbers.below(4) > 0) {
            look();
            return;
        }
        int times = style == 3 ? 1 + numbers.below(3) : 1;
        for (int i = 0; i < times; i++) {
            int set = set();
            int number = number();
            hold("add", "add(" + set + ", " + number + ")", () -> x.add(set, number), () -> model.add(set, number));
        }
    }

    private void prove() {
        if (model.lines() > 0 && numbers.below(5) > 0) {
            spoilOrCheck();
            return;
        }
        hold("prove", "prove()", x::prove, model::prove);
        for (int line = 0; line < model.lines(); line++) {
            if (model.size(line) == 40) {
                reach("prove 40 in a line");
            }
        }
    }

    private void spoilOrCheck() {
        int pick = numbers.below(10);
        if (pick < 3) {
            hold("check", "check()", x::check, model::check);
        } else if (pick < 5) {
            hold("witness", "witness()", x::witness, model::witness);
        } else if (pick < 7 && model.lines() > 0) {
            spoilAndMend();
        } else {
            int line = line();
            int set = set();
            spoil(line, set, number());
        }
    }

    private void spoil(int line, int set, int number) {
        hold("spoil", "spoil(" + line + ", " + set + ", " + number + ")",
                () -> x.spoil(line, set, number), () -> model.spoil(line, set, number));
    }

    private void spoilAndMend() {
        int line = numbers.below(model.lines());
        int set = numbers.below(1 << model.wires());
        int number = 1 + numbers.below(9);
        spoil(line, set, number);
        hold("check", "check()", x::check, model::check);
        spoil(line, set, -number);
        hold("check", "check()", x::check, model::check);
    }

    private void look() {
        int line = line();
        int set = set();
        switch (numbers.below(7)) {
            case 0:
                hold("wires", "wires()", x::wires, model::wires);
                break;
            case 1:
                hold("lines", "lines()", x::lines, model::lines);
                break;
            case 2:
                hold("size", "size(" + line + ")", () -> x.size(line), () -> model.size(line));
                break;
            case 3:
                int i = numbers.below(12) - 1;
                hold("monomial", "monomial(" + line + ", " + i + ")",
                        () -> x.monomial(line, i), () -> model.monomial(line, i));
                break;
            case 4:
                hold("coefficient", "coefficient(" + line + ", " + set + ")",
                        () -> x.coefficient(line, set), () -> model.coefficient(line, set));
                break;
            case 5:
                hold("simulate", "simulate(" + set + ")", () -> x.simulate(set), () -> model.simulate(set));
                break;
            default:
                hold("evaluate", "evaluate(" + set + ")", () -> x.evaluate(set), () -> model.evaluate(set));
                break;
        }
    }

    private int literal() {
        int n = model.wires();
        if (numbers.strange()) {
            return numbers.below(2) == 0 ? -1 : 2 * n + 2;
        }
        return numbers.below(8) == 0 ? numbers.below(2) : numbers.below(2 * n + 2);
    }

    private int set() {
        int sets = 1 << model.wires();
        if (numbers.strange()) {
            return numbers.below(2) == 0 ? -1 - numbers.below(3) : sets + numbers.below(3);
        }
        if (numbers.below(3) > 0 || model.lines() == 0) {
            int few = numbers.below(sets) & numbers.below(sets);
            return numbers.below(2) == 0 ? few : numbers.below(sets);
        }
        int line = numbers.below(model.lines());
        int size = model.size(line);
        return size == 0 ? 0 : model.monomial(line, numbers.below(size));
    }

    private int line() {
        int lines = model.lines();
        return numbers.strange() || lines == 0 ? numbers.below(lines + 2) - 1 : numbers.below(lines);
    }

    private int number() {
        int pick = numbers.below(20);
        if (pick == 0) {
            return Integer.MIN_VALUE;
        }
        return pick == 1 ? Integer.MAX_VALUE : numbers.below(7) - 3;
    }

    private void hold(String name, String call, Due.Call real, Due.Call wanted) {
        String want = Due.outcome(wanted);
        Due.same(run + ": " + call, want, Due.outcome(real));
        reach(name + " " + nameOf(want));
        if (name.equals("check") && want.equals(Integer.toString(model.lines()))) {
            reach("check all");
        }
        if (name.equals("witness") && want.matches("[0-9]+")) {
            reach("witness " + Integer.bitCount(Integer.parseInt(want)));
        }
        if (name.equals("clear")) {
            reach("clear");
        }
    }

    private static void reach(String what) {
        REACHED.merge(what, 1, Integer::sum);
    }

    private static String nameOf(String outcome) {
        switch (outcome) {
            case "java.lang.IllegalArgumentException":
                return "ARGUMENT";
            case "java.lang.IllegalStateException":
                return "STATE";
            case "java.lang.IndexOutOfBoundsException":
                return "INDEX";
            case "java.lang.ArithmeticException":
                return "ARITHMETIC";
            case "java.util.NoSuchElementException":
                return "NO_ELEMENT";
            default:
                return outcome;
        }
    }

    /** The same numbers in every run of the tests. */
    private static final class Numbers {
        private long state;

        Numbers(int start) {
            state = start * 0x9E3779B97F4A7C15L + 1;
        }

        int below(int bound) {
            state = state * 6364136223846793005L + 1442695040888963407L;
            return (int) ((state >>> 33) % bound);
        }

        boolean strange() {
            return below(16) == 0;
        }
    }
}

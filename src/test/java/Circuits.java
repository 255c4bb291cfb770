/** Circuits that several tests start from, and looks at all that can be seen of an object. */
final class Circuits {
    static final int AND = 0;
    static final int XOR = 1;
    static final int CHOICE = 2;
    static final int MAJORITY = 3;

    private Circuits() {
    }

    static GatePolynomials withInputs(int inputs) {
        GatePolynomials x = new GatePolynomials();
        for (int i = 0; i < inputs; i++) {
            x.input();
        }
        return x;
    }

    /** Wire 1 = NOT 0, each other wire is the opposite of the one before it. */
    static GatePolynomials withGates(int gates) {
        GatePolynomials x = new GatePolynomials();
        for (int wire = 1; wire <= gates; wire++) {
            x.gate(XOR, 2 * wire - 2, 1, 0);
        }
        return x;
    }

    /** Inputs 1 and 2, wire 3 = 1 AND 2, wire 4 = NOT 1 XOR 3; the claim 5 * w4 - 2 * w1 w3. */
    static GatePolynomials small() {
        GatePolynomials x = withInputs(2);
        x.gate(AND, 2, 4, 0);
        x.gate(XOR, 3, 6, 0);
        x.add(8, 5);
        x.add(5, -2);
        return x;
    }

    static GatePolynomials smallProven() {
        GatePolynomials x = small();
        x.prove();
        return x;
    }

    /** Six inputs, w7 = NOT 1 AND NOT 2, w8 = NOT 3 AND NOT 4; the proof's lines have 10, 16 and 40 monomials. */
    static GatePolynomials forty() {
        GatePolynomials x = withInputs(6);
        x.gate(AND, 3, 5, 0);
        x.gate(AND, 7, 9, 0);
        x.add(128 + 64, 1);
        x.add(128 + 64 + 16, 1);
        for (int set = 32; set < 40; set++) {
            x.add(set, 1);
        }
        return x;
    }

    static GatePolynomials fortyProven() {
        GatePolynomials x = forty();
        x.prove();
        return x;
    }

    static void addTimes(GatePolynomials x, int times, int set, int number) {
        for (int i = 0; i < times; i++) {
            x.add(set, number);
        }
    }

    /** The line has just these monomials with these coefficients, in this order. */
    static void dueLine(GatePolynomials x, int line, long... setsAndNumbers) {
        int size = setsAndNumbers.length / 2;
        Due.answer("size(" + line + ")", size, () -> x.size(line));
        for (int i = 0; i < size; i++) {
            int at = i;
            int set = (int) setsAndNumbers[2 * i];
            Due.answer("monomial(" + line + ", " + i + ")", set, () -> x.monomial(line, at));
            Due.answer("coefficient(" + line + ", " + set + ")", setsAndNumbers[2 * i + 1],
                    () -> x.coefficient(line, set));
        }
        Due.thrown("monomial(" + line + ", " + size + ")", Due.INDEX, () -> x.monomial(line, size));
    }

    static void dueNoProof(String when, GatePolynomials x) {
        Due.answer(when + ": lines()", 0, x::lines);
        Due.thrown(when + ": size(0)", Due.STATE, () -> x.size(0));
        Due.thrown(when + ": monomial(0, 0)", Due.STATE, () -> x.monomial(0, 0));
        Due.thrown(when + ": coefficient(0, 0)", Due.STATE, () -> x.coefficient(0, 0));
        Due.thrown(when + ": spoil(0, 0, 1)", Due.STATE, () -> x.spoil(0, 0, 1));
        Due.thrown(when + ": check()", Due.STATE, x::check);
        Due.thrown(when + ": witness()", Due.STATE, x::witness);
    }

    /** The call throws this and changes nothing that can be seen. */
    static void refused(GatePolynomials x, String call, Class<? extends RuntimeException> want, Due.Call made) {
        String before = seen(x);
        Due.thrown(call, want, made);
        Due.same(call + " leaves all as it was", before, seen(x));
    }

    /** All that can be seen without changing anything; how often the claim was added to is not among it. */
    static String seen(GatePolynomials x) {
        StringBuilder all = new StringBuilder("wires " + x.wires() + ", values");
        int sets = 1 << x.wires();
        for (int set = 0; set < sets; set++) {
            int given = set;
            all.append(' ').append(Due.outcome(() -> x.simulate(given)));
            all.append(' ').append(Due.outcome(() -> x.evaluate(given)));
        }
        all.append(", check ").append(Due.outcome(x::check));
        all.append(", witness ").append(Due.outcome(x::witness));
        for (int line = 0; line < x.lines(); line++) {
            all.append(", line ").append(line).append(':').append(seenLine(x, line));
        }
        return all.toString();
    }

    static String seenLine(GatePolynomials x, int line) {
        StringBuilder all = new StringBuilder();
        int size = x.size(line);
        for (int i = 0; i < size; i++) {
            int set = x.monomial(line, i);
            all.append(' ').append(x.coefficient(line, set)).append(" * ").append(set);
        }
        return all.toString();
    }

    static long lineValue(GatePolynomials x, int line, int ones) {
        long sum = 0;
        int size = x.size(line);
        for (int i = 0; i < size; i++) {
            int set = x.monomial(line, i);
            sum += (set & ones) == set ? x.coefficient(line, set) : 0;
        }
        return sum;
    }
}

import java.util.NoSuchElementException;

/** Each promise of the document by hand: ordinary inputs, the edges it names, and wrong inputs. */
final class PromiseTest {
    private static final Class<IllegalArgumentException> ARGUMENT = IllegalArgumentException.class;
    private static final Class<IllegalStateException> STATE = IllegalStateException.class;
    private static final Class<IndexOutOfBoundsException> INDEX = IndexOutOfBoundsException.class;
    private static final Class<ArithmeticException> ARITHMETIC = ArithmeticException.class;
    private static final Class<NoSuchElementException> NO_ELEMENT = NoSuchElementException.class;

    private static final int AND = 0;
    private static final int XOR = 1;
    private static final int CHOICE = 2;
    private static final int MAJORITY = 3;

    private PromiseTest() {
    }

    public static void main(String[] args) {
        promise1NewObject();
        promise2Input();
        promise3Gate();
        promise3GateWrong();
        promise3EveryGate();
        promise4Wires();
        promise5Add();
        promise6Simulate();
        promise7Evaluate();
        promise8Prove();
        promise8ProveAtFortyMonomials();
        promise8ProveThrowsForAMiddleLine();
        promise9Lines();
        promise10Size();
        promise11Monomial();
        promise12Coefficient();
        promise13Spoil();
        promise13SpoilAtFortyMonomials();
        promise14Check();
        promise14CheckOfSpoiltLines();
        promise15Witness();
        promise16Clear();
        Due.end();
    }

    private static GatePolynomials withInputs(int inputs) {
        GatePolynomials x = new GatePolynomials();
        for (int i = 0; i < inputs; i++) {
            x.input();
        }
        return x;
    }

    /** Inputs 1 and 2, wire 3 = 1 AND 2, wire 4 = NOT 1 XOR 3; the claim 5 * w4 - 2 * w1 w3. */
    private static GatePolynomials small() {
        GatePolynomials x = withInputs(2);
        x.gate(AND, 2, 4, 0);
        x.gate(XOR, 3, 6, 0);
        x.add(8, 5);
        x.add(5, -2);
        return x;
    }

    private static void dueLine(GatePolynomials x, int line, int... setsAndNumbers) {
        int size = setsAndNumbers.length / 2;
        Due.answer("size(" + line + ")", size, () -> x.size(line));
        for (int i = 0; i < size; i++) {
            int at = i;
            int set = setsAndNumbers[2 * i];
            Due.answer("monomial(" + line + ", " + i + ")", set, () -> x.monomial(line, at));
            Due.answer("coefficient(" + line + ", " + set + ")", setsAndNumbers[2 * i + 1],
                    () -> x.coefficient(line, set));
        }
        Due.thrown("monomial(" + line + ", " + size + ")", INDEX, () -> x.monomial(line, size));
    }

    private static void promise1NewObject() {
        GatePolynomials x = new GatePolynomials();
        Due.answer("new: wires()", 0, x::wires);
        Due.answer("new: lines()", 0, x::lines);
        Due.thrown("new: check()", STATE, x::check);
        Due.answer("new: simulate(0)", 0, () -> x.simulate(0));
        Due.answer("new: evaluate(0)", 0, () -> x.evaluate(0));
        Due.answer("new: prove()", 0, x::prove);
        Due.answer("new: lines() of the proof", 1, x::lines);
        dueLine(x, 0);
        Due.answer("new: check() of the proof", 1, x::check);
        Due.answer("new: add(0, 3)", 1, () -> x.add(0, 3));
        GatePolynomials other = new GatePolynomials();
        x.input();
        Due.answer("new: objects share nothing", 0, other::wires);
        Due.answer("new: objects share no claim", 0, () -> other.evaluate(0));
    }

    private static void promise2Input() {
        GatePolynomials x = new GatePolynomials();
        for (int i = 1; i <= 9; i++) {
            Due.answer("input() " + i, i, x::input);
        }
        x.add(511, 1);
        x.prove();
        Due.thrown("input() the tenth", STATE, x::input);
        Due.answer("input() the tenth makes none", 9, x::wires);
        Due.answer("input() the tenth leaves the proof", 1, x::lines);
        Due.answer("input() nine inputs", 511, () -> x.simulate(511));

        GatePolynomials y = small();
        y.prove();
        Due.answer("input() behind gates", 5, y::input);
        Due.answer("input() throws the proof away", 0, y::lines);
        Due.answer("input() behind gates can be 1", 16 + 8, () -> y.simulate(16));
        Due.answer("input() leaves the claim", 5, () -> y.evaluate(16));
    }

    private static void promise3Gate() {
        GatePolynomials x = new GatePolynomials();
        Due.answer("gate without wires", 1, () -> x.gate(XOR, 0, 1, 77));
        Due.answer("gate of its forerunner", 2, () -> x.gate(AND, 2, 3, -1));
        Due.answer("input between gates", 3, x::input);
        Due.answer("gate of a choice", 4, () -> x.gate(CHOICE, 6, 3, 2));
        Due.answer("gate of a majority", 5, () -> x.gate(MAJORITY, 9, 7, 1));
        Due.answer("gate: values for 0", 1 + 8 + 16, () -> x.simulate(0));
        Due.answer("gate: values for 1", 1 + 4 + 16, () -> x.simulate(4));
        x.prove();
        Due.answer("gate and a proof", 5, x::lines);
        Due.answer("gate after a proof", 6, () -> x.gate(AND, 10, 11, Integer.MIN_VALUE));
        Due.answer("gate throws the proof away", 0, x::lines);
    }

    private static void promise3GateWrong() {
        GatePolynomials x = small();
        x.prove();
        Due.thrown("gate of kind -1", ARGUMENT, () -> x.gate(-1, 0, 0, 0));
        Due.thrown("gate of kind 4", ARGUMENT, () -> x.gate(4, 0, 0, 0));
        Due.thrown("gate of kind MIN", ARGUMENT, () -> x.gate(Integer.MIN_VALUE, 0, 0, 0));
        for (int kind = AND; kind <= MAJORITY; kind++) {
            int k = kind;
            Due.thrown("gate a = -1", ARGUMENT, () -> x.gate(k, -1, 0, 0));
            Due.thrown("gate b = -1", ARGUMENT, () -> x.gate(k, 0, -1, 0));
            Due.thrown("gate a is its own wire", ARGUMENT, () -> x.gate(k, 10, 0, 0));
            Due.thrown("gate b is its own wire", ARGUMENT, () -> x.gate(k, 0, 10, 0));
            Due.thrown("gate a = MAX", ARGUMENT, () -> x.gate(k, Integer.MAX_VALUE, 0, 0));
        }
        Due.thrown("choice c = -1", ARGUMENT, () -> x.gate(CHOICE, 0, 0, -1));
        Due.thrown("choice c is its own wire", ARGUMENT, () -> x.gate(CHOICE, 0, 0, 10));
        Due.thrown("majority c = -1", ARGUMENT, () -> x.gate(MAJORITY, 0, 0, -1));
        Due.thrown("majority c is its own wire", ARGUMENT, () -> x.gate(MAJORITY, 0, 0, 11));
        Due.answer("gate that throws makes none", 4, x::wires);
        Due.answer("gate that throws leaves the proof", 3, x::lines);
        Due.answer("gate of the last literal", 5, () -> x.gate(MAJORITY, 9, 9, 9));

        GatePolynomials full = withInputs(9);
        full.prove();
        Due.thrown("gate the tenth", STATE, () -> full.gate(AND, 0, 0, 99));
        Due.thrown("gate the tenth, last literals", STATE, () -> full.gate(MAJORITY, 19, 19, 19));
        Due.thrown("gate the tenth, c wrong", ARGUMENT, () -> full.gate(MAJORITY, 0, 0, 20));
        Due.thrown("gate the tenth, a wrong", ARGUMENT, () -> full.gate(AND, 20, 0, 0));
        Due.thrown("gate the tenth, kind wrong", ARGUMENT, () -> full.gate(4, 0, 0, 0));
        Due.answer("gate the tenth leaves the proof", 1, full::lines);
    }

    /** Every gate over three inputs: its value, and that of the polynomial it is put in as. */
    private static void promise3EveryGate() {
        for (int kind = AND; kind <= MAJORITY; kind++) {
            for (int literals = 0; literals < 512; literals++) {
                dueGate(kind, literals & 7, (literals >> 3) & 7, (literals >> 6) & 7);
            }
        }
    }

    private static void dueGate(int kind, int a, int b, int c) {
        GatePolynomials x = withInputs(3);
        x.gate(kind, a, b, c);
        x.add(8, 1);
        x.prove();
        String name = "gate(" + kind + ", " + a + ", " + b + ", " + c + ")";
        for (int inputs = 0; inputs < 8; inputs++) {
            int given = inputs;
            int value = gateValue(kind, literal(a, given), literal(b, given), literal(c, given));
            Due.answer(name + " simulate " + given, given + 8 * value, () -> x.simulate(given));
            Due.answer(name + " evaluate " + given, value, () -> x.evaluate(given));
            Due.answer(name + " rest at " + given, value, () -> lineValue(x, 1, given));
        }
        Due.that(name + " is eliminated", x.size(1) == 0 || x.monomial(1, 0) < 8);
        Due.answer(name + " check", 2, x::check);
    }

    private static int literal(int literal, int inputs) {
        boolean one = literal < 2 ? literal == 1 : (literal % 2 == 0) == ((inputs >> (literal / 2 - 1)) % 2 == 1);
        return one ? 1 : 0;
    }

    private static int gateValue(int kind, int a, int b, int c) {
        switch (kind) {
            case AND:
                return a * b;
            case XOR:
                return a == b ? 0 : 1;
            case CHOICE:
                return a == 1 ? b : c;
            default:
                return (a + b + c) / 2;
        }
    }

    private static long lineValue(GatePolynomials x, int line, int ones) {
        long sum = 0;
        int size = x.size(line);
        for (int i = 0; i < size; i++) {
            int set = x.monomial(line, i);
            sum += (set & ones) == set ? x.coefficient(line, set) : 0;
        }
        return sum;
    }

    private static void promise4Wires() {
        GatePolynomials x = withInputs(1);
        Due.answer("wires() one input", 1, x::wires);
        x.gate(XOR, 2, 3, 0);
        Due.answer("wires() with a gate", 2, x::wires);
        x.prove();
        Due.answer("wires() leaves the proof", 2, x::lines);
    }

    private static void promise5Add() {
        GatePolynomials x = withInputs(2);
        Due.answer("add", 1, () -> x.add(3, 7));
        Due.answer("add 0 counts", 2, () -> x.add(3, 0));
        Due.answer("add to the empty set", 3, () -> x.add(0, -9));
        Due.answer("add again", 4, () -> x.add(3, -2));
        Due.answer("add: value", -4, () -> x.evaluate(3));
        x.prove();
        dueLine(x, 0, 3, 5, 0, -9);
        Due.thrown("add(-1)", ARGUMENT, () -> x.add(-1, 1));
        Due.thrown("add(4)", ARGUMENT, () -> x.add(4, 1));
        Due.thrown("add(MIN)", ARGUMENT, () -> x.add(Integer.MIN_VALUE, 1));
        Due.answer("add that throws leaves the proof", 1, x::lines);
        Due.answer("add that throws does not count", 5, () -> x.add(3, 0));
        Due.answer("add of 0 throws the proof away", 0, x::lines);
        Due.answer("add: gone to 0", 6, () -> x.add(0, 9));
        Due.answer("add: proof of one", 1, x::prove);
        dueLine(x, 0, 3, 5);

        GatePolynomials y = new GatePolynomials();
        Due.thrown("add(1) without wires", ARGUMENT, () -> y.add(1, 1));
        for (int i = 1; i <= 40; i++) {
            Due.answer("add " + i, i, () -> y.add(0, Integer.MAX_VALUE));
        }
        y.prove();
        Due.thrown("add the 41st", STATE, () -> y.add(0, 1));
        Due.thrown("add the 41st of 0", STATE, () -> y.add(0, 0));
        Due.thrown("add the 41st to no set", ARGUMENT, () -> y.add(1, 1));
        Due.answer("add the 41st leaves the proof", 1, y::lines);
        Due.answer("add: a long sum", 40L * Integer.MAX_VALUE, () -> y.evaluate(0));
    }

    private static void promise6Simulate() {
        GatePolynomials x = small();
        Due.answer("simulate(0)", 8, () -> x.simulate(0));
        Due.answer("simulate(1)", 1, () -> x.simulate(1));
        Due.answer("simulate(2)", 10, () -> x.simulate(2));
        Due.answer("simulate(3)", 15, () -> x.simulate(3));
        Due.thrown("simulate(4) a gate's wire", ARGUMENT, () -> x.simulate(4));
        Due.thrown("simulate(11) a gate's wire among inputs", ARGUMENT, () -> x.simulate(11));
        Due.thrown("simulate(16)", ARGUMENT, () -> x.simulate(16));
        Due.thrown("simulate(-1)", ARGUMENT, () -> x.simulate(-1));
        Due.thrown("simulate(MIN)", ARGUMENT, () -> x.simulate(Integer.MIN_VALUE));
        Due.thrown("simulate(MIN + 1)", ARGUMENT, () -> x.simulate(Integer.MIN_VALUE + 1));
        Due.thrown("simulate(1 << 30)", ARGUMENT, () -> x.simulate(1 << 30));
        x.prove();
        x.simulate(3);
        Due.answer("simulate leaves the proof", 3, x::lines);
    }

    private static void promise7Evaluate() {
        GatePolynomials x = small();
        Due.answer("evaluate(0)", 5, () -> x.evaluate(0));
        Due.answer("evaluate(1)", 0, () -> x.evaluate(1));
        Due.answer("evaluate(2)", 5, () -> x.evaluate(2));
        Due.answer("evaluate(3)", 3, () -> x.evaluate(3));
        Due.thrown("evaluate(4)", ARGUMENT, () -> x.evaluate(4));
        Due.thrown("evaluate(16)", ARGUMENT, () -> x.evaluate(16));
        Due.thrown("evaluate(-1)", ARGUMENT, () -> x.evaluate(-1));
        Due.thrown("evaluate(MIN)", ARGUMENT, () -> x.evaluate(Integer.MIN_VALUE));
        x.prove();
        x.spoil(0, 0, 100);
        Due.answer("evaluate is of the claim, not of line 0", 5, () -> x.evaluate(0));
        Due.answer("evaluate leaves the proof", 3, x::lines);
    }

    private static void promise8Prove() {
        GatePolynomials x = small();
        Due.answer("prove", 3, x::prove);
        dueLine(x, 0, 8, 5, 5, -2);
        // w4 = 1 - w1 - w3 + 2 w1 w3: 5 w4 - 2 w1 w3 = 5 - 5 w1 - 5 w3 + 8 w1 w3
        dueLine(x, 1, 5, 8, 4, -5, 1, -5, 0, 5);
        // w3 = w1 w2: 5 - 5 w1 + 3 w1 w2
        dueLine(x, 2, 3, 3, 1, -5, 0, 5);
        x.spoil(1, 0, 4);
        Due.answer("prove again", 3, x::prove);
        Due.answer("prove again puts a new proof in place", 3, x::check);

        GatePolynomials holds = withInputs(1);
        holds.gate(XOR, 2, 1, 0);
        holds.add(1, 1);
        holds.add(2, 1);
        holds.add(0, -1);
        Due.answer("prove an equation that holds", 0, holds::prove);
        Due.answer("evaluate where it holds", 0, () -> holds.evaluate(1));

        GatePolynomials apart = new GatePolynomials();
        apart.gate(XOR, 0, 1, 0);
        apart.input();
        apart.gate(CHOICE, 4, 3, 2);
        apart.input();
        apart.add(12, 6);
        Due.answer("prove with gates and inputs in turn", 2, apart::prove);
        dueLine(apart, 0, 12, 6);
        dueLine(apart, 1, 11, -12, 10, 6, 9, 6);
        dueLine(apart, 2, 10, -6, 8, 6);

        GatePolynomials long40 = withInputs(1);
        long40.gate(XOR, 3, 3, 0);
        for (int i = 0; i < 20; i++) {
            long40.add(3, Integer.MIN_VALUE);
            long40.add(2, Integer.MIN_VALUE);
        }
        long40.gate(MAJORITY, 2, 2, 3);
        Due.answer("prove with long numbers that vanish", 0, long40::prove);
        Due.answer("prove with long numbers", 20L * Integer.MIN_VALUE, () -> long40.coefficient(1, 3));
    }

    /** Six inputs, w7 = NOT 1 AND NOT 2, w8 = NOT 3 AND NOT 4; the rest of the claim has 40 monomials. */
    private static GatePolynomials forty() {
        GatePolynomials x = withInputs(6);
        x.gate(AND, 3, 5, 0);
        x.gate(AND, 7, 9, 0);
        x.add(128 + 64, 1);
        x.add(128 + 64 + 16, 1);
        for (int set = 32; set < 40; set++) {
            x.add(set, 1);
        }
        return x;
    }

    private static void promise8ProveAtFortyMonomials() {
        GatePolynomials x = forty();
        Due.answer("prove 40 monomials", 40, x::prove);
        Due.answer("40 monomials: line 0", 10, () -> x.size(0));
        Due.answer("40 monomials: line 1", 16, () -> x.size(1));
        Due.answer("40 monomials: line 2", 40, () -> x.size(2));
        Due.answer("40 monomials: the last", 0, () -> x.monomial(2, 39));
        Due.answer("40 monomials: the first", 39, () -> x.monomial(2, 0));
        x.add(40, 1);
        Due.thrown("prove 41 monomials", ARITHMETIC, x::prove);
        Due.answer("prove that throws makes no proof", 0, x::lines);
        Due.thrown("prove that throws makes no line 0", STATE, () -> x.size(0));
        Due.thrown("prove that throws has no check", STATE, x::check);
        Due.thrown("prove 41 monomials again", ARITHMETIC, x::prove);
        x.add(40, -1);
        Due.answer("prove 40 monomials again", 40, x::prove);

        GatePolynomials claim = withInputs(9);
        for (int i = 0; i < 40; i++) {
            claim.add(511 - i, -1);
        }
        Due.answer("prove a claim of 40 monomials", 40, claim::prove);
        Due.answer("a claim of 40 monomials: the last", 472, () -> claim.monomial(0, 39));
    }

    private static void promise8ProveThrowsForAMiddleLine() {
        GatePolynomials x = new GatePolynomials();
        x.gate(AND, 0, 0, 0);
        for (int i = 0; i < 6; i++) {
            x.input();
        }
        x.gate(AND, 5, 7, 0);
        x.gate(AND, 9, 11, 0);
        x.add(256 + 128 + 1, 1);
        x.add(256 + 128 + 32 + 1, 1);
        for (int i = 0; i < 8; i++) {
            x.add(64 + 2 * i + 1, 1);
        }
        Due.answer("prove with 40 monomials in the middle", 0, x::prove);
        Due.answer("40 in the middle", 40, () -> x.size(2));
        Due.answer("none at the end", 0, () -> x.size(3));
        x.add(64 + 16 + 1, 1);
        Due.thrown("prove with 41 monomials in the middle", ARITHMETIC, x::prove);
    }

    private static void promise9Lines() {
        GatePolynomials x = small();
        Due.answer("lines() before", 0, x::lines);
        x.prove();
        Due.answer("lines() one more than gates", 3, x::lines);
        x.spoil(1, 15, 1);
        Due.answer("lines() of a spoilt proof", 3, x::lines);
        x.add(0, 0);
        Due.answer("lines() after add", 0, x::lines);

        GatePolynomials gates = new GatePolynomials();
        for (int i = 0; i < 9; i++) {
            gates.gate(XOR, 2 * i, 1, 0);
        }
        gates.add(256, 1);
        Due.answer("prove nine gates", 1, gates::prove);
        Due.answer("lines() of nine gates", 10, gates::lines);
        dueLine(gates, 9, 0, 1);
        Due.answer("check of nine gates", 10, gates::check);
    }

    private static void promise10Size() {
        GatePolynomials x = small();
        Due.thrown("size(0) without a proof", STATE, () -> x.size(0));
        Due.thrown("size(-1) without a proof", STATE, () -> x.size(-1));
        x.prove();
        Due.answer("size(0)", 2, () -> x.size(0));
        Due.answer("size(1)", 4, () -> x.size(1));
        Due.answer("size(2)", 3, () -> x.size(2));
        Due.thrown("size(3)", INDEX, () -> x.size(3));
        Due.thrown("size(-1)", INDEX, () -> x.size(-1));
        Due.thrown("size(MIN)", INDEX, () -> x.size(Integer.MIN_VALUE));
        Due.thrown("size(MAX)", INDEX, () -> x.size(Integer.MAX_VALUE));
        x.spoil(1, 4, 5);
        Due.answer("size(1) spoilt to 0", 3, () -> x.size(1));
        x.spoil(1, 15, 5);
        Due.answer("size(1) spoilt from 0", 4, () -> x.size(1));
    }

    private static void promise11Monomial() {
        GatePolynomials x = small();
        Due.thrown("monomial(0, 0) without a proof", STATE, () -> x.monomial(0, 0));
        Due.thrown("monomial(9, 9) without a proof", STATE, () -> x.monomial(9, 9));
        x.prove();
        Due.answer("monomial(1, 0)", 5, () -> x.monomial(1, 0));
        Due.answer("monomial(1, 1)", 4, () -> x.monomial(1, 1));
        Due.answer("monomial(1, 2)", 1, () -> x.monomial(1, 2));
        Due.answer("monomial(1, 3)", 0, () -> x.monomial(1, 3));
        Due.thrown("monomial(1, 4)", INDEX, () -> x.monomial(1, 4));
        Due.thrown("monomial(1, -1)", INDEX, () -> x.monomial(1, -1));
        Due.thrown("monomial(1, MAX)", INDEX, () -> x.monomial(1, Integer.MAX_VALUE));
        Due.thrown("monomial(3, 0)", INDEX, () -> x.monomial(3, 0));
        Due.thrown("monomial(-1, 0)", INDEX, () -> x.monomial(-1, 0));
        x.spoil(1, 15, -1);
        Due.answer("monomial(1, 0) spoilt", 15, () -> x.monomial(1, 0));
        x.spoil(1, 4, 5);
        Due.answer("monomial(1, 2) after one that went", 1, () -> x.monomial(1, 2));

        GatePolynomials none = withInputs(2);
        none.prove();
        Due.thrown("monomial(0, 0) of none", INDEX, () -> none.monomial(0, 0));
    }

    private static void promise12Coefficient() {
        GatePolynomials x = small();
        Due.thrown("coefficient without a proof", STATE, () -> x.coefficient(0, 8));
        Due.thrown("coefficient without a proof, wrong", STATE, () -> x.coefficient(-1, -1));
        x.prove();
        Due.answer("coefficient(0, 8)", 5, () -> x.coefficient(0, 8));
        Due.answer("coefficient(0, 5)", -2, () -> x.coefficient(0, 5));
        Due.answer("coefficient(0, 0)", 0, () -> x.coefficient(0, 0));
        Due.answer("coefficient(0, 15)", 0, () -> x.coefficient(0, 15));
        Due.answer("coefficient(1, 8)", 0, () -> x.coefficient(1, 8));
        Due.answer("coefficient(1, 5)", 8, () -> x.coefficient(1, 5));
        Due.thrown("coefficient(0, 16)", INDEX, () -> x.coefficient(0, 16));
        Due.thrown("coefficient(0, -1)", INDEX, () -> x.coefficient(0, -1));
        Due.thrown("coefficient(0, MIN)", INDEX, () -> x.coefficient(0, Integer.MIN_VALUE));
        Due.thrown("coefficient(3, 0)", INDEX, () -> x.coefficient(3, 0));
        Due.thrown("coefficient(-1, 0)", INDEX, () -> x.coefficient(-1, 0));
    }

    private static void promise13Spoil() {
        GatePolynomials x = small();
        Due.thrown("spoil without a proof", STATE, () -> x.spoil(0, 0, 1));
        Due.thrown("spoil without a proof, wrong", STATE, () -> x.spoil(-1, -1, 1));
        x.prove();
        Due.answer("spoil", 7, () -> x.spoil(1, 5, -1));
        Due.answer("spoil by 0", 7, () -> x.spoil(1, 5, 0));
        Due.answer("spoil to 0", 0, () -> x.spoil(1, 5, -7));
        dueLine(x, 1, 4, -5, 1, -5, 0, 5);
        Due.answer("spoil a set of any wires", 3, () -> x.spoil(2, 15, 3));
        dueLine(x, 2, 15, 3, 3, 3, 1, -5, 0, 5);
        dueLine(x, 0, 8, 5, 5, -2);
        Due.thrown("spoil line 3", INDEX, () -> x.spoil(3, 0, 1));
        Due.thrown("spoil line -1", INDEX, () -> x.spoil(-1, 0, 1));
        Due.thrown("spoil set 16", INDEX, () -> x.spoil(0, 16, 1));
        Due.thrown("spoil set -1", INDEX, () -> x.spoil(0, -1, 1));
        Due.thrown("spoil set -1 by 0", INDEX, () -> x.spoil(0, -1, 0));
        dueLine(x, 0, 8, 5, 5, -2);
        Due.answer("spoil by a great number", 5L + Integer.MAX_VALUE, () -> x.spoil(0, 8, Integer.MAX_VALUE));
        Due.answer("spoil past an int", 5L + 2L * Integer.MAX_VALUE, () -> x.spoil(0, 8, Integer.MAX_VALUE));
        Due.answer("spoil the empty set", Integer.MIN_VALUE, () -> x.spoil(0, 0, Integer.MIN_VALUE));
        Due.answer("spoil the empty set again", 2L * Integer.MIN_VALUE, () -> x.spoil(0, 0, Integer.MIN_VALUE));
        Due.answer("spoil leaves the claim", 5, () -> x.evaluate(0));
    }

    private static void promise13SpoilAtFortyMonomials() {
        GatePolynomials x = forty();
        x.prove();
        Due.thrown("spoil to 41 monomials", ARITHMETIC, () -> x.spoil(2, 40, 1));
        Due.thrown("spoil to 41 monomials, of any wires", ARITHMETIC, () -> x.spoil(2, 255, -1));
        Due.answer("spoil to 41: nothing is changed", 0, () -> x.coefficient(2, 40));
        Due.answer("spoil to 41: the size is left", 40, () -> x.size(2));
        Due.thrown("spoil to 41: no set first", INDEX, () -> x.spoil(2, 256, 1));
        Due.thrown("spoil to 41: no line first", INDEX, () -> x.spoil(3, 40, 1));
        Due.answer("spoil at 40 by 0", 0, () -> x.spoil(2, 40, 0));
        Due.answer("spoil at 40 one that is there", 3, () -> x.spoil(2, 39, 2));
        Due.answer("spoil at 40 to 0", 0, () -> x.spoil(2, 39, -3));
        Due.answer("spoil at 39", 1, () -> x.spoil(2, 40, 1));
        Due.answer("spoil at 39: the size", 40, () -> x.size(2));
        Due.thrown("spoil at 40 again", ARITHMETIC, () -> x.spoil(2, 39, 1));
        Due.answer("spoil another line", 1, () -> x.spoil(1, 255, 1));
    }

    private static void promise14Check() {
        GatePolynomials x = small();
        Due.thrown("check without a proof", STATE, x::check);
        x.prove();
        Due.answer("check of a new proof", 3, x::check);
        for (int line = 2; line >= 0; line--) {
            int spoilt = line;
            x.spoil(spoilt, 0, 1);
            Due.answer("check, line " + spoilt + " spoilt", spoilt, x::check);
        }
        x.spoil(0, 0, -1);
        Due.answer("check, line 0 mended", 1, x::check);
        x.spoil(1, 0, -1);
        Due.answer("check, line 1 mended", 2, x::check);
        x.spoil(2, 0, -1);
        Due.answer("check, all mended", 3, x::check);
        x.spoil(1, 8, 1);
        Due.answer("check, a gate's wire is back", 1, x::check);
        x.add(0, 0);
        Due.thrown("check after add", STATE, x::check);
    }

    private static void promise14CheckOfSpoiltLines() {
        GatePolynomials x = small();
        x.prove();
        // Each line still comes of the one before it, but line 0 is not the claim.
        x.spoil(0, 1, 2);
        x.spoil(1, 1, 2);
        x.spoil(2, 1, 2);
        Due.answer("check of another claim's proof", 0, x::check);
        // The sizes are those that are due, the sets are not.
        x.spoil(0, 1, -2);
        x.spoil(1, 1, 3);
        x.spoil(1, 2, 5);
        Due.answer("check of a line of the right size", 1, x::check);

        GatePolynomials many = forty();
        many.prove();
        // 44 monomials come of line 1 then: that is no fault of check's.
        many.spoil(1, 64 + 40, 1);
        Due.answer("check of a line of which more than 40 come", 1, many::check);
        many.spoil(1, 64 + 40, -1);
        Due.answer("check, mended", 3, many::check);

        GatePolynomials first = new GatePolynomials();
        first.gate(AND, 1, 1, 0);
        first.add(1, 1);
        first.prove();
        first.spoil(1, 0, 1);
        Due.answer("check looks at the line of wire 1", 1, first::check);

        GatePolynomials inputs = withInputs(2);
        inputs.add(3, 4);
        inputs.prove();
        Due.answer("check without gates", 1, inputs::check);
        inputs.spoil(0, 3, -8);
        Due.answer("check without gates, spoilt", 0, inputs::check);
    }

    private static void promise15Witness() {
        GatePolynomials x = withInputs(4);
        Due.thrown("witness without a proof", STATE, x::witness);
        x.gate(AND, 2, 4, 0);
        x.add(16, 1);
        x.add(12, 1);
        x.add(15, 1);
        x.prove();
        Due.answer("witness, the least of two", 3, x::witness);
        x.spoil(1, 8, -1);
        Due.answer("witness, fewer wires, not the least", 8, x::witness);
        x.spoil(1, 16, -1);
        Due.answer("witness, a gate's wire is greater", 8, x::witness);
        x.spoil(1, 8, 1);
        Due.answer("witness of any wires", 16, x::witness);
        x.spoil(1, 0, 1);
        Due.answer("witness, the empty set", 0, x::witness);
        x.spoil(0, 1, 1);
        Due.answer("witness is of the rest alone", 0, x::witness);

        GatePolynomials holds = withInputs(2);
        holds.gate(XOR, 2, 2, 0);
        holds.add(4, 9);
        holds.prove();
        Due.thrown("witness where the equation holds", NO_ELEMENT, holds::witness);
        holds.spoil(1, 3, 1);
        Due.answer("witness of a spoilt rest", 3, holds::witness);
        holds.spoil(1, 3, -1);
        Due.thrown("witness of a mended rest", NO_ELEMENT, holds::witness);

        GatePolynomials all = withInputs(9);
        all.add(511, 1);
        all.prove();
        Due.answer("witness of all nine inputs", 511, all::witness);

        GatePolynomials shown = small();
        shown.prove();
        Due.that("witness shows that the equation fails", shown.evaluate(shown.witness()) != 0);
    }

    private static void promise16Clear() {
        GatePolynomials x = forty();
        x.prove();
        Due.answer("clear()", 8, x::clear);
        Due.answer("clear() again", 0, x::clear);
        Due.answer("clear: wires()", 0, x::wires);
        Due.answer("clear: lines()", 0, x::lines);
        Due.thrown("clear: check()", STATE, x::check);
        Due.thrown("clear: size(0)", STATE, () -> x.size(0));
        Due.answer("clear: evaluate(0)", 0, () -> x.evaluate(0));
        Due.thrown("clear: simulate(1)", ARGUMENT, () -> x.simulate(1));
        Due.thrown("clear: add(1, 1)", ARGUMENT, () -> x.add(1, 1));
        for (int i = 1; i <= 40; i++) {
            Due.answer("clear: add " + i, i, () -> x.add(0, 1));
        }
        Due.answer("clear: gate", 1, () -> x.gate(XOR, 0, 1, 0));
        Due.thrown("clear: its wire is no input", ARGUMENT, () -> x.simulate(1));
        Due.answer("clear: input", 2, x::input);
        Due.answer("clear: prove", 1, x::prove);
        dueLine(x, 1, 0, 40);
        Due.answer("clear with a proof", 2, x::clear);
        Due.answer("clear: prove of nothing", 0, x::prove);
        Due.answer("clear: lines of nothing", 1, x::lines);
        Due.answer("clear: check of nothing", 1, x::check);
    }
}

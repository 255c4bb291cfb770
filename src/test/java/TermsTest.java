/** The sentences of the document's 'What it is' and 'Terms', edge by edge. */
final class TermsTest {
    private static final int AND = Circuits.AND;
    private static final int XOR = Circuits.XOR;
    private static final int CHOICE = Circuits.CHOICE;
    private static final int MAJORITY = Circuits.MAJORITY;

    private TermsTest() {
    }

    public static void main(String[] args) {
        sentences().run();
    }

    static Sentences sentences() {
        Sentences all = new Sentences();
        all.section("What it is");
        all.test("An object is used for at most 512 calls after it has been made", "the 512th call",
                TermsTest::call512);
        all.section("Terms");
        wires(all);
        polynomials(all);
        proofs(all);
        exceptions(all);
        return all;
    }

    private static void wires(Sentences all) {
        all.test("WIRES have the numbers 1, 2, .. in the order in which they were made, at most 9",
                "the first, the ninth and the tenth wire", TermsTest::nineWires);
        all.test("each is an INPUT or the end of a GATE.", "inputs alone", TermsTest::inputsAlone);
        all.test("each is an INPUT or the end of a GATE.", "gates alone", TermsTest::gatesAlone);
        all.test("A LITERAL is 0 (always 0), 1 (always 1)", "literals without wires", TermsTest::literalsWithoutWires);
        all.test("2 * w (wire w) or 2 * w + 1 (1 when wire w is 0, else 0)", "literals of the first and last wire",
                TermsTest::literalsOfWires);
        all.test("for a wire that is there.", "the greatest literal and the next", TermsTest::greatestLiteral);
        all.test("GATES by kind: 0 AND of a and b", "AND of all values", TermsTest::and);
        all.test("1 XOR of a and b", "XOR of all values", TermsTest::xor);
        all.test("2 CHOICE, b when a is 1, else c", "CHOICE of all values", TermsTest::choice);
        all.test("3 MAJORITY, 1 when two or more of a, b, c are 1.", "MAJORITY of all values", TermsTest::majority);
        all.test("A SET is an int from 0 to 2^n - 1, n being the number of wires", "the greatest set and the next",
                TermsTest::greatestSet);
        all.test("A SET is an int from 0 to 2^n - 1, n being the number of wires", "sets below 0",
                TermsTest::setsBelowZero);
        all.test("bit w - 1 stands for wire w.", "the bits of wires 1 to 9", TermsTest::bits);
    }

    private static void polynomials(Sentences all) {
        all.test("A POLYNOMIAL is a whole number (a long), its COEFFICIENT, for each set",
                "coefficients that no int holds", TermsTest::longCoefficients);
        all.test("its MONOMIALS are the sets with a coefficient that is not 0", "coefficients of 0",
                TermsTest::coefficientsOfZero);
        all.test("its MONOMIALS are the sets with a coefficient that is not 0", "coefficients whose low half is 0",
                TermsTest::lowHalfZero);
        all.test("in falling order.", "the full set first, the empty set last", TermsTest::fallingOrder);
        all.test("Its VALUE, when each wire has a value 0 or 1, is the sum of the coefficients of those sets of "
                + "which all wires are 1.", "the empty set, the full set and one wire short", TermsTest::value);
        all.test("(Different polynomials differ in their value somewhere.)", "literals of one wire in a gate",
                TermsTest::onePolynomialForAValue);
        all.test("To ELIMINATE wire w, the end of a gate, from a polynomial P: the polynomial in which wire w is "
                + "in no monomial", "nine gates, each gone from its line", TermsTest::eliminatedWireIsGone);
        all.test("and which has, whatever values the wires have, the value that P has when wire w has instead of "
                + "its own value that which its gate makes of the values of the others.",
                "values that do not fit the gates", TermsTest::valuesThatDoNotFit);
        all.test("instead of its own value that which its gate makes of the values of the others",
                "a polynomial without the wire", TermsTest::eliminateWhatIsNotThere);
        all.test("instead of its own value that which its gate makes of the values of the others",
                "inputs made after the gate, up to wire 9", TermsTest::eliminateBelowLaterInputs);
        all.test("instead of its own value that which its gate makes of the values of the others",
                "a monomial with the wire and its gate's", TermsTest::eliminateBesideItsGate);
        all.test("instead of its own value that which its gate makes of the values of the others",
                "monomials that meet and vanish", TermsTest::eliminateToNothing);
    }

    private static void proofs(Sentences all) {
        all.test("THE EQUATION is that a polynomial, the CLAIM, is 0; at first it has no monomials.",
                "the claim before it is added to", TermsTest::emptyClaim);
        all.test("A PROOF is a row of LINES, which are polynomials: line 0 is the claim",
                "line 0 of no and of 40 monomials", TermsTest::lineZero);
        all.test("line k comes of line k - 1 by eliminating, of the wires that are ends of gates, that with the "
                + "k-th greatest number", "gates and inputs in turn", TermsTest::greatestGateFirst);
        all.test("so there is one line more than gates.", "no gate and nine gates", TermsTest::oneLineMore);
        all.test("The last one is the REST; as it is made inputs alone are in its monomials.",
                "the rest without gates", TermsTest::restWithoutGates);
        all.test("The last one is the REST; as it is made inputs alone are in its monomials.",
                "the rest without inputs", TermsTest::restWithoutInputs);
        all.test("Making a wire or adding to the claim throws the proof away", "an input", TermsTest::inputDropsProof);
        all.test("Making a wire or adding to the claim throws the proof away", "a gate", TermsTest::gateDropsProof);
        all.test("Making a wire or adding to the claim throws the proof away", "an addition",
                TermsTest::addDropsProof);
        all.test("Making a wire or adding to the claim throws the proof away", "an addition of 0",
                TermsTest::addOfZeroDropsProof);
        all.test("Making a wire or adding to the claim throws the proof away", "all else leaves it",
                TermsTest::lookingLeavesProof);
        all.test("making a proof puts it in place of the one that was there.", "a proof spoilt in each line",
                TermsTest::proveAgain);
    }

    private static void exceptions(Sentences all) {
        String first = "Methods throw what their comments name, the one named first when several would do";
        all.test(first, "gate with all wrong", TermsTest::gateFirst);
        all.test(first, "add with all wrong", TermsTest::addFirst);
        all.test(first, "lines without a proof", TermsTest::proofFirst);
        all.test(first, "spoil with all wrong", TermsTest::spoilFirst);
        all.test("a call that throws changes nothing.", "every call that throws", TermsTest::throwsChangeNothing);
        all.test("a call that throws changes nothing.", "prove that throws", TermsTest::proveThrowsChangesNothing);
        all.test("a call that throws changes nothing.", "additions that throw do not count",
                TermsTest::throwsAreNotCounted);
    }

    private static void call512() {
        GatePolynomials x = Circuits.withInputs(8);
        x.gate(MAJORITY, 2, 5, 17);
        Circuits.addTimes(x, 40, 511, Integer.MIN_VALUE);
        x.prove();
        for (int call = 51; call < 512; call++) {
            x.spoil(1, 511, Integer.MIN_VALUE);
        }
        Due.answer("call 512", 462L * Integer.MIN_VALUE, () -> x.spoil(1, 511, Integer.MIN_VALUE));
    }

    private static void nineWires() {
        GatePolynomials x = new GatePolynomials();
        for (int wire = 1; wire <= 9; wire++) {
            boolean input = wire % 2 == 1;
            Due.answer("wire " + wire, wire, () -> input ? x.input() : x.gate(AND, 2, 2, 0));
        }
        Circuits.refused(x, "input(), the tenth wire", Due.STATE, x::input);
        Circuits.refused(x, "gate(..), the tenth wire", Due.STATE, () -> x.gate(AND, 2, 2, 0));
        Due.answer("wires()", 9, x::wires);
    }

    private static void inputsAlone() {
        GatePolynomials x = Circuits.withInputs(9);
        for (int set = 0; set < 512; set++) {
            int given = set;
            Due.answer("simulate(" + set + ")", set, () -> x.simulate(given));
        }
    }

    private static void gatesAlone() {
        GatePolynomials x = Circuits.withGates(9);
        Due.answer("simulate(0)", 0b101010101, () -> x.simulate(0));
        for (int set = 1; set < 512; set++) {
            int given = set;
            Due.thrown("simulate(" + set + ")", Due.ARGUMENT, () -> x.simulate(given));
        }
    }

    private static void literalsWithoutWires() {
        for (int kind = AND; kind <= MAJORITY; kind++) {
            for (int values = 0; values < 8; values++) {
                int a = values & 1;
                int b = (values >> 1) & 1;
                int c = values >> 2;
                GatePolynomials x = new GatePolynomials();
                String gate = "gate(" + kind + ", " + a + ", " + b + ", " + c + ")";
                int k = kind;
                Due.answer(gate, 1, () -> x.gate(k, a, b, c));
                int value = gateValue(kind, a, b, c);
                Due.answer(gate + " simulate(0)", value, () -> x.simulate(0));
                x.add(1, 3);
                Due.answer(gate + " prove()", value, x::prove);
                Due.answer(gate + " rest", 3 * value, () -> x.coefficient(1, 0));
            }
        }
    }

    private static void literalsOfWires() {
        for (int wire = 1; wire <= 8; wire += 7) {
            int one = 1 << (wire - 1);
            GatePolynomials same = Circuits.withInputs(8);
            same.gate(AND, 2 * wire, 2 * wire, 0);
            Due.answer("wire " + wire + " of 0", 0, () -> same.simulate(0));
            Due.answer("wire " + wire + " of 1", one + 256, () -> same.simulate(one));
            Due.answer("wire " + wire + " alone counts", 255 - one, () -> same.simulate(255 - one));
            GatePolynomials opposite = Circuits.withInputs(8);
            opposite.gate(AND, 2 * wire + 1, 2 * wire + 1, 0);
            Due.answer("opposite of wire " + wire + " of 0", 256, () -> opposite.simulate(0));
            Due.answer("opposite of wire " + wire + " of 1", one, () -> opposite.simulate(one));
            Due.answer("opposite of wire " + wire + " alone counts", 256 + 255 - one,
                    () -> opposite.simulate(255 - one));
        }
    }

    private static void greatestLiteral() {
        for (int wires = 0; wires <= 8; wires++) {
            GatePolynomials x = Circuits.withInputs(wires);
            for (int wrong : new int[] {2 * wires + 2, 2 * wires + 3, -1, Integer.MIN_VALUE, Integer.MAX_VALUE}) {
                Circuits.refused(x, wires + " wires, literal " + wrong, Due.ARGUMENT,
                        () -> x.gate(MAJORITY, 0, 1, wrong));
            }
            int last = 2 * wires + 1;
            Due.answer(wires + " wires, literal " + last, wires + 1, () -> x.gate(MAJORITY, last, last, last));
        }
        GatePolynomials nine = Circuits.withInputs(9);
        Due.thrown("9 wires, literal 19 is one", Due.STATE, () -> nine.gate(AND, 19, 18, 0));
        Due.thrown("9 wires, literal 20 is none", Due.ARGUMENT, () -> nine.gate(AND, 20, 18, 0));
    }

    private static void and() {
        dueTable(AND, 0, 0, 0, 1, 0, 0, 0, 1);
        dueEveryGate(AND);
    }

    private static void xor() {
        dueTable(XOR, 0, 1, 1, 0, 0, 1, 1, 0);
        dueEveryGate(XOR);
    }

    private static void choice() {
        dueTable(CHOICE, 0, 0, 0, 1, 1, 0, 1, 1);
        dueEveryGate(CHOICE);
    }

    private static void majority() {
        dueTable(MAJORITY, 0, 0, 0, 1, 0, 1, 1, 1);
        dueEveryGate(MAJORITY);
    }

    /** A gate of three inputs: its value where a, b and c are the bits 1, 2 and 4 of the place. */
    private static void dueTable(int kind, int... values) {
        GatePolynomials x = Circuits.withInputs(3);
        x.gate(kind, 2, 4, 6);
        for (int inputs = 0; inputs < 8; inputs++) {
            int given = inputs;
            Due.answer("inputs " + inputs, given + 8 * values[given], () -> x.simulate(given));
        }
    }

    /** The kind with all literals of three inputs: its value, and that of the polynomial it is put in as. */
    private static void dueEveryGate(int kind) {
        for (int literals = 0; literals < 512; literals++) {
            dueGate(kind, literals & 7, (literals >> 3) & 7, (literals >> 6) & 7);
        }
    }

    private static void dueGate(int kind, int a, int b, int c) {
        GatePolynomials x = Circuits.withInputs(3);
        x.gate(kind, a, b, c);
        x.add(8, 1);
        x.prove();
        String name = "gate(" + kind + ", " + a + ", " + b + ", " + c + ")";
        for (int inputs = 0; inputs < 8; inputs++) {
            int given = inputs;
            int value = gateValue(kind, literal(a, given), literal(b, given), literal(c, given));
            Due.answer(name + " simulate " + given, given + 8 * value, () -> x.simulate(given));
            Due.answer(name + " evaluate " + given, value, () -> x.evaluate(given));
            Due.answer(name + " rest at " + given, value, () -> Circuits.lineValue(x, 1, given));
        }
        Due.that(name + " is eliminated", x.size(1) == 0 || x.monomial(1, 0) < 8);
        Due.answer(name + " check", 2, x::check);
    }

    private static int literal(int literal, int inputs) {
        boolean one = literal < 2 ? literal == 1 : (literal % 2 == 0) == ((inputs >> (literal / 2 - 1)) % 2 == 1);
        return one ? 1 : 0;
    }

    private static int gateValue(int kind, int a, int b, int c) {
        switch (kind) {
            case AND:
                return a * b;
            case XOR:
                return a == b ? 0 : 1;
            case CHOICE:
                return a == 1 ? b : c;
            default:
                return (a + b + c) / 2;
        }
    }

    private static void greatestSet() {
        for (int wires = 0; wires <= 9; wires++) {
            GatePolynomials x = Circuits.withInputs(wires);
            int last = (1 << wires) - 1;
            String sets = wires + " wires, set ";
            Due.answer(sets + last + " in add", 1, () -> x.add(last, 6));
            Due.answer(sets + last + " in simulate", last, () -> x.simulate(last));
            Due.answer(sets + last + " in evaluate", 6, () -> x.evaluate(last));
            x.prove();
            Due.answer(sets + last + " in coefficient", 6, () -> x.coefficient(0, last));
            Due.answer(sets + last + " in spoil", 7, () -> x.spoil(0, last, 1));
            for (int next : new int[] {last + 1, last + 2, 2 * last + 2, 1 << 16, Integer.MAX_VALUE}) {
                dueNoSet(x, next);
            }
        }
    }

    private static void setsBelowZero() {
        for (int wires = 0; wires <= 9; wires += 3) {
            GatePolynomials x = Circuits.withInputs(wires);
            x.prove();
            for (int wrong : new int[] {-1, -2, -512, Integer.MIN_VALUE, Integer.MIN_VALUE + 1}) {
                dueNoSet(x, wrong);
            }
        }
    }

    private static void dueNoSet(GatePolynomials x, int wrong) {
        String call = x.wires() + " wires, no set is " + wrong + ": ";
        Due.thrown(call + "add", Due.ARGUMENT, () -> x.add(wrong, 1));
        Due.thrown(call + "simulate", Due.ARGUMENT, () -> x.simulate(wrong));
        Due.thrown(call + "evaluate", Due.ARGUMENT, () -> x.evaluate(wrong));
        Due.thrown(call + "coefficient", Due.INDEX, () -> x.coefficient(0, wrong));
        Due.thrown(call + "spoil", Due.INDEX, () -> x.spoil(0, wrong, 1));
    }

    private static void bits() {
        for (int wire = 1; wire <= 9; wire++) {
            GatePolynomials x = Circuits.withInputs(wire - 1);
            x.gate(XOR, 0, 1, 0);
            int bit = 1 << (wire - 1);
            Due.answer("the gate at wire " + wire, bit, () -> x.simulate(0));
            x.add(bit, 1);
            Due.answer("the claim of wire " + wire, 1, () -> x.evaluate(0));
            x.prove();
            Circuits.dueLine(x, 0, bit, 1);
            Circuits.dueLine(x, 1, 0, 1);
        }
    }

    private static void longCoefficients() {
        GatePolynomials x = Circuits.withInputs(1);
        x.gate(XOR, 3, 3, 0);
        Circuits.addTimes(x, 20, 1, Integer.MAX_VALUE);
        Circuits.addTimes(x, 20, 0, Integer.MIN_VALUE);
        long plus = 20L * Integer.MAX_VALUE;
        long minus = 20L * Integer.MIN_VALUE;
        Due.answer("evaluate(0)", minus, () -> x.evaluate(0));
        Due.answer("evaluate(1)", plus + minus, () -> x.evaluate(1));
        x.prove();
        Circuits.dueLine(x, 0, 1, plus, 0, minus);
        Circuits.dueLine(x, 1, 1, plus, 0, minus);
        Due.answer("spoil past", plus + Integer.MAX_VALUE, () -> x.spoil(1, 1, Integer.MAX_VALUE));
        Due.answer("spoil below", minus + Integer.MIN_VALUE, () -> x.spoil(1, 0, Integer.MIN_VALUE));

        GatePolynomials doubled = Circuits.withInputs(2);
        doubled.gate(XOR, 2, 4, 0);
        doubled.add(4, Integer.MIN_VALUE);
        doubled.prove();
        Circuits.dueLine(doubled, 1, 3, -2L * Integer.MIN_VALUE, 2, Integer.MIN_VALUE, 1, Integer.MIN_VALUE);
    }

    private static void coefficientsOfZero() {
        GatePolynomials x = Circuits.withInputs(2);
        x.add(3, 0);
        Due.answer("prove with a coefficient of 0", 0, x::prove);
        Circuits.dueLine(x, 0);
        x.add(3, -1);
        Due.answer("prove with a coefficient below 0", 1, x::prove);
        Circuits.dueLine(x, 0, 3, -1);
        x.add(3, 1);
        Due.answer("prove with a coefficient gone to 0", 0, x::prove);
        Circuits.dueLine(x, 0);
        x.spoil(0, 2, 4);
        Circuits.dueLine(x, 0, 2, 4);
        x.spoil(0, 2, -4);
        Circuits.dueLine(x, 0);
    }

    private static void lowHalfZero() {
        GatePolynomials x = Circuits.withInputs(2);
        x.add(2, Integer.MIN_VALUE);
        x.add(2, Integer.MIN_VALUE);
        Due.answer("prove with a coefficient of -2^32", 1, x::prove);
        Circuits.dueLine(x, 0, 2, -(1L << 32));
        Due.answer("witness of -2^32", 2, x::witness);
        x.spoil(0, 2, Integer.MIN_VALUE);
        x.spoil(0, 2, Integer.MIN_VALUE);
        Due.answer("check of a line -2^32 away from the claim", 0, x::check);
    }

    private static void fallingOrder() {
        GatePolynomials x = Circuits.withInputs(9);
        for (int set : new int[] {0, 256, 1, 511, 255}) {
            x.add(set, set + 1);
        }
        x.prove();
        Circuits.dueLine(x, 0, 511, 512, 256, 257, 255, 256, 1, 2, 0, 1);
        x.spoil(0, 510, -3);
        x.spoil(0, 2, -4);
        x.spoil(0, 256, -257);
        Circuits.dueLine(x, 0, 511, 512, 510, -3, 255, 256, 2, -4, 1, 2, 0, 1);
    }

    private static void value() {
        GatePolynomials x = Circuits.withInputs(9);
        x.add(511, 100);
        x.add(0, 7);
        x.add(256, 20);
        Due.answer("no wire is 1", 7, () -> x.evaluate(0));
        Due.answer("wire 9 alone is 1", 27, () -> x.evaluate(256));
        Due.answer("wire 9 alone is 0", 7, () -> x.evaluate(255));
        Due.answer("wire 1 alone is 0", 27, () -> x.evaluate(510));
        Due.answer("all wires are 1", 127, () -> x.evaluate(511));
        x.add(511, -127);
        Due.answer("a sum of 0", 0, () -> x.evaluate(511));
    }

    private static void onePolynomialForAValue() {
        dueRest(AND, 2, 2, 0, 1, 1);
        dueRest(AND, 2, 3, 0);
        dueRest(AND, 1, 1, 0, 0, 1);
        dueRest(XOR, 2, 2, 0);
        dueRest(XOR, 2, 3, 0, 0, 1);
        dueRest(XOR, 3, 5, 0, 3, -2, 2, 1, 1, 1);
        dueRest(CHOICE, 2, 2, 4, 3, -1, 2, 1, 1, 1);
        dueRest(CHOICE, 2, 4, 2, 3, 1);
        dueRest(CHOICE, 2, 4, 4, 2, 1);
        dueRest(MAJORITY, 2, 2, 4, 1, 1);
        dueRest(MAJORITY, 4, 2, 3, 2, 1);
        dueRest(MAJORITY, 0, 2, 4, 3, 1);
        dueRest(MAJORITY, 5, 5, 5, 2, -1, 0, 1);
    }

    /** The gate of inputs 1 and 2, put into the claim 'wire 3', is just this polynomial. */
    private static void dueRest(int kind, int a, int b, int c, long... setsAndNumbers) {
        GatePolynomials x = Circuits.withInputs(2);
        x.gate(kind, a, b, c);
        x.add(4, 1);
        x.prove();
        Circuits.dueLine(x, 1, setsAndNumbers);
    }

    private static void eliminatedWireIsGone() {
        GatePolynomials x = Circuits.withGates(9);
        x.add(256, 1);
        x.prove();
        for (int line = 1; line <= 8; line++) {
            int next = 1 << (8 - line);
            if (line % 2 == 1) {
                Circuits.dueLine(x, line, next, -1, 0, 1);
            } else {
                Circuits.dueLine(x, line, next, 1);
            }
        }
        Circuits.dueLine(x, 9, 0, 1);
        GatePolynomials all = Circuits.withGates(9);
        all.add(0b101010101, 1);
        all.prove();
        for (int line = 0; line <= 9; line++) {
            Due.that("line " + line + " has no wire that went", all.size(line) == 0
                    || all.monomial(line, 0) < 1 << (9 - line));
        }
    }

    private static void valuesThatDoNotFit() {
        GatePolynomials x = Circuits.smallProven();
        for (int ones = 0; ones < 16; ones++) {
            int given = ones;
            int w1 = ones & 1;
            int w2 = (ones >> 1) & 1;
            int w3 = (ones >> 2) & 1;
            int w4 = ones >> 3;
            int gate4 = (1 - w1) ^ w3;
            int gate3 = w1 * w2;
            Due.answer("line 0 at " + ones, 5 * w4 - 2 * w1 * w3, () -> Circuits.lineValue(x, 0, given));
            Due.answer("line 1 at " + ones, 5 * gate4 - 2 * w1 * w3, () -> Circuits.lineValue(x, 1, given));
            Due.answer("line 2 at " + ones, 5 * ((1 - w1) ^ gate3) - 2 * w1 * gate3,
                    () -> Circuits.lineValue(x, 2, given));
        }
    }

    private static void eliminateWhatIsNotThere() {
        GatePolynomials x = Circuits.withInputs(2);
        x.gate(AND, 2, 4, 0);
        x.add(1, 3);
        x.add(2, -1);
        x.add(0, 4);
        x.prove();
        Circuits.dueLine(x, 1, 2, -1, 1, 3, 0, 4);
        Due.answer("check()", 2, x::check);
    }

    private static void eliminateBelowLaterInputs() {
        GatePolynomials x = Circuits.withInputs(2);
        x.gate(AND, 3, 4, 0);
        for (int wire = 4; wire <= 9; wire++) {
            x.input();
        }
        x.add(511, 9);
        x.add(256 + 4, 2);
        x.add(256, 3);
        x.add(256 + 128, 5);
        x.add(8, 7);
        Due.answer("prove()", 5, x::prove);
        Circuits.dueLine(x, 1, 256 + 128, 5, 256 + 3, -2, 256 + 2, 2, 256, 3, 8, 7);
        Due.answer("check()", 2, x::check);
    }

    private static void eliminateBesideItsGate() {
        GatePolynomials x = Circuits.withInputs(2);
        x.gate(AND, 2, 4, 0);
        x.add(5, 3);
        x.add(7, 4);
        x.prove();
        Circuits.dueLine(x, 1, 3, 7);
        GatePolynomials none = Circuits.withInputs(2);
        none.gate(AND, 3, 4, 0);
        none.add(5, 3);
        Due.answer("prove of w1 (1 - w1) w2", 0, none::prove);
    }

    private static void eliminateToNothing() {
        GatePolynomials x = Circuits.withInputs(2);
        x.gate(XOR, 2, 4, 0);
        x.add(4, 5);
        x.add(1, -5);
        x.add(2, -5);
        x.add(3, 10);
        Due.answer("prove of w3 - w1 - w2 + 2 w1 w2", 0, x::prove);
        Circuits.dueLine(x, 1);
        GatePolynomials constant = new GatePolynomials();
        constant.gate(AND, 0, 1, 0);
        constant.add(1, 8);
        Due.answer("prove of a gate that is 0", 0, constant::prove);
    }

    private static void emptyClaim() {
        GatePolynomials x = new GatePolynomials();
        Due.answer("evaluate(0) without wires", 0, () -> x.evaluate(0));
        Due.answer("prove() without wires", 0, x::prove);
        Circuits.dueLine(x, 0);
        x.input();
        x.gate(XOR, 2, 1, 0);
        Due.answer("evaluate(0) with wires", 0, () -> x.evaluate(0));
        Due.answer("evaluate(1) with wires", 0, () -> x.evaluate(1));
        Due.answer("prove() with wires", 0, x::prove);
        Circuits.dueLine(x, 0);
        Circuits.dueLine(x, 1);
    }

    private static void lineZero() {
        GatePolynomials none = Circuits.withGates(2);
        none.prove();
        Circuits.dueLine(none, 0);
        GatePolynomials full = Circuits.withInputs(8);
        full.gate(AND, 2, 4, 0);
        long[] due = new long[80];
        for (int i = 0; i < 40; i++) {
            full.add(511 - i, i - 50);
            due[2 * i] = 511 - i;
            due[2 * i + 1] = i - 50;
        }
        full.prove();
        Circuits.dueLine(full, 0, due);
    }

    private static void greatestGateFirst() {
        GatePolynomials x = new GatePolynomials();
        x.gate(XOR, 0, 1, 0);
        x.input();
        x.gate(CHOICE, 4, 3, 2);
        x.input();
        x.add(12, 6);
        Due.answer("prove()", 2, x::prove);
        Circuits.dueLine(x, 0, 12, 6);
        Circuits.dueLine(x, 1, 11, -12, 10, 6, 9, 6);
        Circuits.dueLine(x, 2, 10, -6, 8, 6);
        Due.answer("lines()", 3, x::lines);
    }

    private static void oneLineMore() {
        for (int gates = 0; gates <= 9; gates++) {
            GatePolynomials x = Circuits.withGates(gates);
            x.prove();
            Due.answer("lines() of " + gates + " gates", gates + 1, x::lines);
        }
        GatePolynomials inputs = Circuits.withInputs(9);
        inputs.prove();
        Due.answer("lines() of nine inputs", 1, inputs::lines);
    }

    private static void restWithoutGates() {
        GatePolynomials x = Circuits.withInputs(9);
        x.add(511, 2);
        x.add(0, 3);
        Due.answer("prove()", 2, x::prove);
        Circuits.dueLine(x, 0, 511, 2, 0, 3);
    }

    private static void restWithoutInputs() {
        GatePolynomials x = Circuits.withGates(9);
        x.add(0b101010101, 4);
        x.add(0b000000010, 9);
        Due.answer("prove()", 1, x::prove);
        Circuits.dueLine(x, 9, 0, 4);
    }

    private static void inputDropsProof() {
        GatePolynomials x = Circuits.smallProven();
        x.input();
        Circuits.dueNoProof("after input()", x);
    }

    private static void gateDropsProof() {
        GatePolynomials x = Circuits.smallProven();
        x.gate(AND, 0, 0, 0);
        Circuits.dueNoProof("after gate(..)", x);
    }

    private static void addDropsProof() {
        GatePolynomials x = Circuits.smallProven();
        x.add(15, 1);
        Circuits.dueNoProof("after add(15, 1)", x);
    }

    private static void addOfZeroDropsProof() {
        GatePolynomials x = Circuits.smallProven();
        x.add(8, 0);
        Circuits.dueNoProof("after add(8, 0)", x);
    }

    private static void lookingLeavesProof() {
        GatePolynomials x = Circuits.smallProven();
        String before = Circuits.seen(x);
        x.wires();
        x.simulate(3);
        x.evaluate(3);
        x.lines();
        x.size(1);
        x.monomial(1, 0);
        x.coefficient(1, 15);
        x.check();
        x.witness();
        x.spoil(1, 15, 0);
        Due.same("all that can be seen", before, Circuits.seen(x));
        x.prove();
        Due.same("all that can be seen after prove()", before, Circuits.seen(x));
    }

    private static void proveAgain() {
        GatePolynomials x = Circuits.smallProven();
        String before = Circuits.seen(x);
        for (int line = 0; line < 3; line++) {
            x.spoil(line, 15, 1);
            x.spoil(line, 0, 1);
        }
        Due.answer("prove()", 3, x::prove);
        Due.same("all that can be seen", before, Circuits.seen(x));
    }

    private static void gateFirst() {
        GatePolynomials x = Circuits.withInputs(9);
        Due.thrown("ten wires and a wrong kind", Due.ARGUMENT, () -> x.gate(4, 0, 0, 0));
        Due.thrown("ten wires and a wrong a", Due.ARGUMENT, () -> x.gate(AND, -1, 0, 0));
        Due.thrown("ten wires and a wrong b", Due.ARGUMENT, () -> x.gate(XOR, 0, 20, 0));
        Due.thrown("ten wires and a wrong c", Due.ARGUMENT, () -> x.gate(CHOICE, 0, 0, 20));
        Due.thrown("ten wires and a c not looked at", Due.STATE, () -> x.gate(AND, 0, 0, 20));
    }

    private static void addFirst() {
        GatePolynomials x = Circuits.withInputs(2);
        Circuits.addTimes(x, 40, 3, 1);
        Due.thrown("the 41st time to no set", Due.ARGUMENT, () -> x.add(4, 1));
        Due.thrown("the 41st time to a set below 0", Due.ARGUMENT, () -> x.add(-1, 1));
        Due.thrown("the 41st time to a set", Due.STATE, () -> x.add(3, 1));
    }

    private static void proofFirst() {
        GatePolynomials x = Circuits.small();
        for (int line : new int[] {-1, 3, Integer.MIN_VALUE, Integer.MAX_VALUE}) {
            Due.thrown("size of no line", Due.STATE, () -> x.size(line));
            Due.thrown("monomial of no line", Due.STATE, () -> x.monomial(line, 0));
            Due.thrown("coefficient of no line", Due.STATE, () -> x.coefficient(line, 0));
            Due.thrown("spoil of no line", Due.STATE, () -> x.spoil(line, 0, 1));
        }
        Due.thrown("monomial -1", Due.STATE, () -> x.monomial(0, -1));
        Due.thrown("coefficient of no set", Due.STATE, () -> x.coefficient(0, 16));
        Due.thrown("spoil of no set", Due.STATE, () -> x.spoil(0, -1, 1));
        Due.thrown("witness of no rest", Due.STATE, new GatePolynomials()::witness);
    }

    private static void spoilFirst() {
        GatePolynomials x = Circuits.fortyProven();
        Due.thrown("a full line, but no set", Due.INDEX, () -> x.spoil(2, 256, 1));
        Due.thrown("a full line, but a set below 0", Due.INDEX, () -> x.spoil(2, -1, 1));
        Due.thrown("no line", Due.INDEX, () -> x.spoil(3, 40, 1));
        Due.thrown("a line below 0", Due.INDEX, () -> x.spoil(-1, 40, 1));
        Due.thrown("a full line and a set", Due.ARITHMETIC, () -> x.spoil(2, 40, 1));
    }

    private static void throwsChangeNothing() {
        GatePolynomials x = Circuits.withInputs(7);
        x.gate(AND, 2, 4, 0);
        x.gate(XOR, 2, 16, 0);
        for (int set = 0; set < 40; set++) {
            x.add(set, set + 1);
        }
        x.prove();
        x.spoil(1, 3, 5);
        Circuits.refused(x, "input()", Due.STATE, x::input);
        Circuits.refused(x, "gate(..) the tenth", Due.STATE, () -> x.gate(AND, 2, 2, 2));
        Circuits.refused(x, "gate(..) of a wrong kind", Due.ARGUMENT, () -> x.gate(-1, 2, 2, 2));
        Circuits.refused(x, "add(512, 1)", Due.ARGUMENT, () -> x.add(512, 1));
        Circuits.refused(x, "add(3, 1)", Due.STATE, () -> x.add(3, 1));
        Circuits.refused(x, "simulate(512)", Due.ARGUMENT, () -> x.simulate(512));
        Circuits.refused(x, "evaluate(128)", Due.ARGUMENT, () -> x.evaluate(128));
        Circuits.refused(x, "size(3)", Due.INDEX, () -> x.size(3));
        Circuits.refused(x, "monomial(0, 40)", Due.INDEX, () -> x.monomial(0, 40));
        Circuits.refused(x, "coefficient(0, 512)", Due.INDEX, () -> x.coefficient(0, 512));
        Circuits.refused(x, "spoil(1, 512, 1)", Due.INDEX, () -> x.spoil(1, 512, 1));
        Circuits.refused(x, "spoil(1, 511, 1)", Due.ARITHMETIC, () -> x.spoil(1, 511, 1));
        GatePolynomials empty = Circuits.withGates(1);
        empty.prove();
        Circuits.refused(empty, "witness()", Due.NO_ELEMENT, empty::witness);
        GatePolynomials unproven = Circuits.small();
        Circuits.refused(unproven, "spoil(0, 8, 1)", Due.STATE, () -> unproven.spoil(0, 8, 1));
        Circuits.refused(unproven, "check()", Due.STATE, unproven::check);
        unproven.prove();
        Due.same("a proof after calls without one", Circuits.seen(Circuits.smallProven()),
                Circuits.seen(unproven));
    }

    private static void proveThrowsChangesNothing() {
        GatePolynomials x = Circuits.forty();
        x.add(40, 1);
        Circuits.refused(x, "prove()", Due.ARITHMETIC, x::prove);
        Circuits.dueNoProof("after prove() that throws", x);
        Circuits.refused(x, "prove() again", Due.ARITHMETIC, x::prove);
        Due.answer("add(40, -1)", 12, () -> x.add(40, -1));
        Due.answer("prove() of 40", 40, x::prove);
        Due.same("the proof", Circuits.seen(Circuits.fortyProven()), Circuits.seen(x));
    }

    private static void throwsAreNotCounted() {
        GatePolynomials x = Circuits.withInputs(2);
        for (int i = 1; i < 40; i++) {
            Due.thrown("add(4, 1)", Due.ARGUMENT, () -> x.add(4, 1));
            Due.answer("add(1, 1)", i, () -> x.add(1, 1));
        }
        Due.thrown("add(-1, 1)", Due.ARGUMENT, () -> x.add(-1, 1));
        Due.answer("add(1, 1) the 40th", 40, () -> x.add(1, 1));
        Due.thrown("add(1, 1) the 41st", Due.STATE, () -> x.add(1, 1));
        Due.answer("the claim", 40, () -> x.evaluate(1));
    }
}

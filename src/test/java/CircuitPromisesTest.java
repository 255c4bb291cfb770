/** The sentences of the promises 1 to 7: an object, its wires, its claim and their values; edge by edge. */
final class CircuitPromisesTest {
    private static final int AND = Circuits.AND;
    private static final int XOR = Circuits.XOR;
    private static final int CHOICE = Circuits.CHOICE;
    private static final int MAJORITY = Circuits.MAJORITY;

    /** Where four wires are there. */
    private static final int[] NO_LITERALS_OF_FOUR = {-1, -2, 10, 11, Integer.MIN_VALUE, Integer.MAX_VALUE};

    private CircuitPromisesTest() {
    }

    public static void main(String[] args) {
        sentences().run();
    }

    static Sentences sentences() {
        Sentences all = new Sentences();
        newObjectAndInput(all);
        gate(all);
        wiresAndAdd(all);
        values(all);
        return all;
    }

    private static void newObjectAndInput(Sentences all) {
        all.section("Promise 1");
        all.test("No wires", "no wires", CircuitPromisesTest::noWires);
        all.test("no claim", "no claim", CircuitPromisesTest::noClaim);
        all.test("no proof.", "no proof", CircuitPromisesTest::noProof);
        all.test("No wires, no claim, no proof.", "objects share nothing", CircuitPromisesTest::nothingShared);
        all.section("Promise 2");
        all.test("Makes an input: its number.", "the first to the ninth", CircuitPromisesTest::nineInputs);
        all.test("Makes an input: its number.", "behind gates", CircuitPromisesTest::inputBehindGates);
        all.test("IllegalStateException: nine wires are there.", "nine inputs", CircuitPromisesTest::inputAfterInputs);
        all.test("IllegalStateException: nine wires are there.", "nine gates", CircuitPromisesTest::inputAfterGates);
    }

    private static void gate(Sentences all) {
        all.section("Promise 3");
        all.test("Makes a gate of this kind", "kinds 0 to 3", CircuitPromisesTest::fourKinds);
        all.test("(c is not looked at for AND and XOR)", "any c", CircuitPromisesTest::anyThird);
        all.test("(c is not looked at for AND and XOR)", "a c that is a literal", CircuitPromisesTest::thirdThatIsOne);
        all.test(": the number of the wire at its end.", "the first to the ninth", CircuitPromisesTest::nineGates);
        all.test("IllegalArgumentException: kind is not 0 .. 3", "kinds below and above",
                CircuitPromisesTest::wrongKinds);
        all.test(", or one of a, b (and c, when it is looked at) is no literal", "a below and above",
                CircuitPromisesTest::wrongFirst);
        all.test(", or one of a, b (and c, when it is looked at) is no literal", "b below and above",
                CircuitPromisesTest::wrongSecond);
        all.test(", or one of a, b (and c, when it is looked at) is no literal", "c below and above",
                CircuitPromisesTest::wrongThird);
        all.test(", or one of a, b (and c, when it is looked at) is no literal", "a literal that a branch leaves out",
                CircuitPromisesTest::wrongWhereItDoesNotMatter);
        all.test("IllegalStateException: nine wires are there.", "nine inputs", CircuitPromisesTest::gateAfterInputs);
        all.test("IllegalStateException: nine wires are there.", "nine gates", CircuitPromisesTest::gateAfterGates);
    }

    private static void wiresAndAdd(Sentences all) {
        all.section("Promise 4");
        all.test("The number of wires.", "none to nine", CircuitPromisesTest::noneToNineWires);
        all.section("Promise 5");
        all.test("Adds to the claim's coefficient of a set", "the empty and the full set", CircuitPromisesTest::addSets);
        all.test("Adds to the claim's coefficient of a set", "the greatest and the least number",
                CircuitPromisesTest::addExtremes);
        all.test("Adds to the claim's coefficient of a set", "to 0 and back", CircuitPromisesTest::addToZero);
        all.test(": how many times this was done so far", "the first to the fortieth time",
                CircuitPromisesTest::fortyAdditions);
        all.test("(also with 0).", "40 times 0", CircuitPromisesTest::fortyZeros);
        all.test("IllegalArgumentException: it is no set", "below 0 and above all wires",
                CircuitPromisesTest::addToNoSet);
        all.test("IllegalArgumentException: it is no set", "a set once its wire is there",
                CircuitPromisesTest::addOnceTheWireIsThere);
        all.test("IllegalStateException: it was done 40 times.", "the 41st time", CircuitPromisesTest::addOnceMore);
    }

    private static void values(Sentences all) {
        all.section("Promise 6");
        all.test("The set of all wires that are 1 when of the inputs just those in a set are 1.", "no wires",
                CircuitPromisesTest::simulateNoWires);
        all.test("The set of all wires that are 1 when of the inputs just those in a set are 1.",
                "no input and all inputs", CircuitPromisesTest::simulateAll);
        all.test("The set of all wires that are 1 when of the inputs just those in a set are 1.",
                "gates upon gates up to wire 9", CircuitPromisesTest::simulateChain);
        all.test("IllegalArgumentException: it is no set", "below 0 and above all wires",
                CircuitPromisesTest::simulateNoSet);
        all.test(", or a wire in it is no input.", "a gate's wire alone and among inputs",
                CircuitPromisesTest::simulateGatesWire);
        all.section("Promise 7");
        all.test("The claim's value then.", "no claim", CircuitPromisesTest::evaluateNoClaim);
        all.test("The claim's value then.", "no input and all inputs", CircuitPromisesTest::evaluateAll);
        all.test("The claim's value then.", "a value that no int holds", CircuitPromisesTest::evaluateLong);
        all.test("The claim's value then.", "a spoilt proof", CircuitPromisesTest::evaluateBesideProof);
        all.test("IllegalArgumentException: as for simulate.", "no set", CircuitPromisesTest::evaluateNoSet);
        all.test("IllegalArgumentException: as for simulate.", "a gate's wire",
                CircuitPromisesTest::evaluateGatesWire);
    }

    private static void noWires() {
        GatePolynomials x = new GatePolynomials();
        Due.answer("wires()", 0, x::wires);
        Due.answer("simulate(0)", 0, () -> x.simulate(0));
        Due.thrown("simulate(1)", Due.ARGUMENT, () -> x.simulate(1));
        Due.thrown("evaluate(1)", Due.ARGUMENT, () -> x.evaluate(1));
        Due.thrown("add(1, 1)", Due.ARGUMENT, () -> x.add(1, 1));
        Due.thrown("gate(0, 2, 0, 0)", Due.ARGUMENT, () -> x.gate(AND, 2, 0, 0));
        Due.thrown("gate(0, 0, 3, 0)", Due.ARGUMENT, () -> x.gate(AND, 0, 3, 0));
        Due.answer("clear()", 0, x::clear);
        Due.answer("input()", 1, x::input);
    }

    private static void noClaim() {
        GatePolynomials x = new GatePolynomials();
        Due.answer("evaluate(0)", 0, () -> x.evaluate(0));
        Due.answer("prove()", 0, x::prove);
        Due.answer("lines()", 1, x::lines);
        Circuits.dueLine(x, 0);
        Due.thrown("witness()", Due.NO_ELEMENT, x::witness);
        Due.answer("add(0, 3)", 1, () -> x.add(0, 3));
        Due.answer("evaluate(0) then", 3, () -> x.evaluate(0));
    }

    private static void noProof() {
        Circuits.dueNoProof("a new object", new GatePolynomials());
    }

    private static void nothingShared() {
        GatePolynomials x = new GatePolynomials();
        GatePolynomials other = new GatePolynomials();
        x.input();
        x.gate(XOR, 2, 1, 0);
        x.add(0, 5);
        x.prove();
        Due.answer("the other's wires()", 0, other::wires);
        Due.answer("the other's evaluate(0)", 0, () -> other.evaluate(0));
        Circuits.dueNoProof("the other", other);
        other.prove();
        other.spoil(0, 0, 1);
        Circuits.dueLine(x, 0, 0, 5);
        Due.answer("the one's check()", 2, x::check);
    }

    private static void nineInputs() {
        GatePolynomials x = new GatePolynomials();
        for (int wire = 1; wire <= 9; wire++) {
            Due.answer("input()", wire, x::input);
            int bit = 1 << (wire - 1);
            Due.answer("simulate(" + bit + ")", bit, () -> x.simulate(bit));
        }
    }

    private static void inputBehindGates() {
        GatePolynomials x = Circuits.withGates(8);
        Due.answer("input()", 9, x::input);
        Due.answer("simulate(0)", 0b001010101, () -> x.simulate(0));
        Due.answer("simulate(256)", 0b101010101, () -> x.simulate(256));
        GatePolynomials y = Circuits.small();
        Due.answer("input() with a claim", 5, y::input);
        Due.answer("evaluate(0)", 5, () -> y.evaluate(0));
        Due.answer("evaluate(16)", 5, () -> y.evaluate(16));
    }

    private static void inputAfterInputs() {
        GatePolynomials x = Circuits.withInputs(9);
        x.add(511, 1);
        x.prove();
        Circuits.refused(x, "input()", Due.STATE, x::input);
        Circuits.refused(x, "input() again", Due.STATE, x::input);
        x.clear();
        Due.answer("input() after clear()", 1, x::input);
    }

    private static void inputAfterGates() {
        GatePolynomials x = Circuits.withGates(8);
        Due.answer("input() the ninth", 9, x::input);
        GatePolynomials y = Circuits.withGates(9);
        Circuits.refused(y, "input() the tenth", Due.STATE, y::input);
        y.prove();
        Circuits.refused(y, "input() with a proof", Due.STATE, y::input);
    }

    private static void fourKinds() {
        // Of a = 1, b = 0, c = 1 the kinds make 0, 1, 0, 1; of a = 0, b = 1, c = 1 they make 0, 1, 1, 1.
        int[] of101 = {0, 1, 0, 1};
        int[] of011 = {0, 1, 1, 1};
        for (int kind = AND; kind <= MAJORITY; kind++) {
            int k = kind;
            GatePolynomials x = Circuits.withInputs(3);
            Due.answer("gate(" + kind + ", ..)", 4, () -> x.gate(k, 2, 4, 6));
            Due.answer("kind " + kind + " of 1 0 1", 5 + 8 * of101[k], () -> x.simulate(5));
            Due.answer("kind " + kind + " of 0 1 1", 6 + 8 * of011[k], () -> x.simulate(6));
        }
    }

    private static void anyThird() {
        for (int c : new int[] {-1, 6, 7, 77, Integer.MIN_VALUE, Integer.MAX_VALUE}) {
            GatePolynomials x = Circuits.withInputs(2);
            Due.answer("AND with c = " + c, 3, () -> x.gate(AND, 2, 4, c));
            Due.answer("XOR with c = " + c, 4, () -> x.gate(XOR, 2, 4, c));
            Due.answer("their values at 2", 2 + 8, () -> x.simulate(2));
            Due.answer("their values at 3", 3 + 4, () -> x.simulate(3));
            x.add(12, 1);
            Due.answer("their product", 0, x::prove);
            Due.answer("check()", 3, x::check);
        }
    }

    private static void thirdThatIsOne() {
        for (int c = 0; c <= 5; c++) {
            GatePolynomials x = Circuits.withInputs(2);
            x.gate(AND, 2, 4, c);
            x.gate(XOR, 2, 4, c);
            x.add(4, 1);
            x.add(8, 10);
            x.prove();
            Circuits.dueLine(x, 2, 3, -19, 2, 10, 1, 10);
            for (int inputs = 0; inputs < 4; inputs++) {
                int given = inputs;
                int due = inputs + (inputs == 3 ? 4 : inputs == 0 ? 0 : 8);
                Due.answer("c = " + c + ", simulate(" + inputs + ")", due, () -> x.simulate(given));
            }
        }
    }

    private static void nineGates() {
        GatePolynomials x = new GatePolynomials();
        for (int wire = 1; wire <= 9; wire++) {
            int before = 2 * wire - 2;
            Due.answer("gate(..)", wire, () -> x.gate(MAJORITY, before, before, 0));
        }
    }

    private static void wrongKinds() {
        GatePolynomials x = Circuits.smallProven();
        for (int kind : new int[] {-1, 4, -4, 5, 256, Integer.MIN_VALUE, Integer.MAX_VALUE}) {
            Circuits.refused(x, "gate(" + kind + ", 0, 0, 0)", Due.ARGUMENT, () -> x.gate(kind, 0, 0, 0));
        }
    }

    private static void wrongFirst() {
        GatePolynomials x = Circuits.smallProven();
        for (int kind = AND; kind <= MAJORITY; kind++) {
            int k = kind;
            for (int wrong : NO_LITERALS_OF_FOUR) {
                Circuits.refused(x, "kind " + kind + ", a = " + wrong, Due.ARGUMENT, () -> x.gate(k, wrong, 0, 0));
            }
            GatePolynomials y = Circuits.small();
            Due.answer("kind " + kind + ", a = 9", 5, () -> y.gate(k, 9, 0, 0));
            GatePolynomials z = Circuits.small();
            Due.answer("kind " + kind + ", a = 0", 5, () -> z.gate(k, 0, 9, 9));
        }
    }

    private static void wrongSecond() {
        GatePolynomials x = Circuits.smallProven();
        for (int kind = AND; kind <= MAJORITY; kind++) {
            int k = kind;
            for (int wrong : NO_LITERALS_OF_FOUR) {
                Circuits.refused(x, "kind " + kind + ", b = " + wrong, Due.ARGUMENT, () -> x.gate(k, 1, wrong, 1));
            }
            GatePolynomials y = Circuits.small();
            Due.answer("kind " + kind + ", b = 9", 5, () -> y.gate(k, 0, 9, 0));
        }
    }

    private static void wrongThird() {
        GatePolynomials x = Circuits.smallProven();
        for (int kind = CHOICE; kind <= MAJORITY; kind++) {
            int k = kind;
            for (int wrong : NO_LITERALS_OF_FOUR) {
                Circuits.refused(x, "kind " + kind + ", c = " + wrong, Due.ARGUMENT, () -> x.gate(k, 0, 0, wrong));
            }
            GatePolynomials y = Circuits.small();
            Due.answer("kind " + kind + ", c = 9", 5, () -> y.gate(k, 0, 0, 9));
        }
    }

    private static void wrongWhereItDoesNotMatter() {
        GatePolynomials x = Circuits.small();
        Due.thrown("AND with a = 0", Due.ARGUMENT, () -> x.gate(AND, 0, 10, 0));
        Due.thrown("CHOICE with a = 0", Due.ARGUMENT, () -> x.gate(CHOICE, 0, 10, 1));
        Due.thrown("CHOICE with a = 1", Due.ARGUMENT, () -> x.gate(CHOICE, 1, 0, 10));
        Due.thrown("MAJORITY with a = b", Due.ARGUMENT, () -> x.gate(MAJORITY, 1, 1, 10));
        Due.thrown("MAJORITY with a = c", Due.ARGUMENT, () -> x.gate(MAJORITY, 0, 10, 0));
        Due.answer("wires()", 4, x::wires);
    }

    private static void gateAfterInputs() {
        GatePolynomials x = Circuits.withInputs(8);
        Due.answer("gate(..) the ninth", 9, () -> x.gate(AND, 17, 17, 0));
        GatePolynomials y = Circuits.withInputs(9);
        y.prove();
        for (int kind = AND; kind <= MAJORITY; kind++) {
            int k = kind;
            Circuits.refused(y, "gate(" + kind + ", ..) the tenth", Due.STATE, () -> y.gate(k, 19, 19, 19));
            Circuits.refused(y, "gate(" + kind + ", 0, 0, 0)", Due.STATE, () -> y.gate(k, 0, 0, 0));
        }
        y.clear();
        Due.answer("gate(..) after clear()", 1, () -> y.gate(AND, 1, 1, 0));
    }

    private static void gateAfterGates() {
        GatePolynomials x = Circuits.withGates(9);
        x.add(256, 1);
        x.prove();
        Circuits.refused(x, "gate(..) the tenth", Due.STATE, () -> x.gate(XOR, 18, 1, 0));
        Circuits.refused(x, "gate(..) again", Due.STATE, () -> x.gate(XOR, 18, 1, 0));
    }

    private static void noneToNineWires() {
        GatePolynomials x = new GatePolynomials();
        Due.answer("wires() at first", 0, x::wires);
        for (int wire = 1; wire <= 9; wire++) {
            if (wire % 3 == 0) {
                x.input();
            } else {
                x.gate(XOR, 0, 1, 0);
            }
            Due.answer("wires() of " + wire, wire, x::wires);
        }
        Due.thrown("input()", Due.STATE, x::input);
        Due.answer("wires() after a tenth", 9, x::wires);
        x.clear();
        Due.answer("wires() after clear()", 0, x::wires);
    }

    private static void addSets() {
        GatePolynomials x = Circuits.withInputs(9);
        Due.answer("add(0, -9)", 1, () -> x.add(0, -9));
        Due.answer("add(511, 4)", 2, () -> x.add(511, 4));
        Due.answer("add(511, 5)", 3, () -> x.add(511, 5));
        Due.answer("add(510, 1)", 4, () -> x.add(510, 1));
        x.prove();
        Circuits.dueLine(x, 0, 511, 9, 510, 1, 0, -9);
        Due.answer("evaluate(511)", 1, () -> x.evaluate(511));
    }

    private static void addExtremes() {
        GatePolynomials x = Circuits.withInputs(1);
        x.add(1, Integer.MIN_VALUE);
        Due.answer("the least", Integer.MIN_VALUE, () -> x.evaluate(1));
        x.add(1, -1);
        Due.answer("one below the least", Integer.MIN_VALUE - 1L, () -> x.evaluate(1));
        x.add(0, Integer.MAX_VALUE);
        Due.answer("the greatest", Integer.MAX_VALUE, () -> x.evaluate(0));
        x.add(0, 1);
        Due.answer("one above the greatest", Integer.MAX_VALUE + 1L, () -> x.evaluate(0));
    }

    private static void addToZero() {
        GatePolynomials x = Circuits.withInputs(2);
        x.add(3, 7);
        x.add(3, -7);
        Due.answer("evaluate(3)", 0, () -> x.evaluate(3));
        Due.answer("prove()", 0, x::prove);
        Circuits.dueLine(x, 0);
        x.add(3, -2);
        Due.answer("evaluate(3) then", -2, () -> x.evaluate(3));
        Due.answer("prove() then", 1, x::prove);
        Circuits.dueLine(x, 0, 3, -2);
    }

    private static void fortyAdditions() {
        GatePolynomials x = Circuits.withInputs(9);
        for (int i = 1; i <= 40; i++) {
            int set = i % 3 == 0 ? 5 : i;
            Due.answer("add(" + set + ", 1)", i, () -> x.add(set, 1));
            x.prove();
        }
    }

    private static void fortyZeros() {
        GatePolynomials x = Circuits.withInputs(1);
        for (int i = 1; i <= 40; i++) {
            Due.answer("add(1, 0)", i, () -> x.add(1, 0));
        }
        Circuits.refused(x, "add(1, 0)", Due.STATE, () -> x.add(1, 0));
        Due.answer("evaluate(1)", 0, () -> x.evaluate(1));
        Due.answer("prove()", 0, x::prove);
    }

    private static void addToNoSet() {
        GatePolynomials x = Circuits.smallProven();
        for (int wrong : new int[] {-1, 16, 17, 512, Integer.MIN_VALUE, Integer.MAX_VALUE}) {
            Circuits.refused(x, "add(" + wrong + ", 1)", Due.ARGUMENT, () -> x.add(wrong, 1));
            Circuits.refused(x, "add(" + wrong + ", 0)", Due.ARGUMENT, () -> x.add(wrong, 0));
        }
        Due.answer("add(15, 1)", 3, () -> x.add(15, 1));
    }

    private static void addOnceTheWireIsThere() {
        GatePolynomials x = new GatePolynomials();
        for (int wire = 1; wire <= 9; wire++) {
            int bit = 1 << (wire - 1);
            Due.thrown("add(" + bit + ", 1) before", Due.ARGUMENT, () -> x.add(bit, 1));
            x.input();
            Due.answer("add(" + bit + ", 1)", wire, () -> x.add(bit, 1));
        }
        Due.answer("evaluate(511)", 9, () -> x.evaluate(511));
    }

    private static void addOnceMore() {
        GatePolynomials x = Circuits.withInputs(1);
        Circuits.addTimes(x, 40, 1, 2);
        Circuits.refused(x, "add(1, 1)", Due.STATE, () -> x.add(1, 1));
        Circuits.refused(x, "add(0, 0)", Due.STATE, () -> x.add(0, 0));
        x.prove();
        Circuits.refused(x, "add(1, 1) with a proof", Due.STATE, () -> x.add(1, 1));
        Due.answer("evaluate(1)", 80, () -> x.evaluate(1));
        x.input();
        Circuits.refused(x, "add(2, 1) after a wire", Due.STATE, () -> x.add(2, 1));
        x.clear();
        Due.answer("add(0, 1) after clear()", 1, () -> x.add(0, 1));
    }

    private static void simulateNoWires() {
        GatePolynomials x = new GatePolynomials();
        Due.answer("simulate(0)", 0, () -> x.simulate(0));
        Circuits.refused(x, "simulate(1)", Due.ARGUMENT, () -> x.simulate(1));
    }

    private static void simulateAll() {
        GatePolynomials x = Circuits.small();
        Due.answer("simulate(0)", 8, () -> x.simulate(0));
        Due.answer("simulate(1)", 1, () -> x.simulate(1));
        Due.answer("simulate(2)", 10, () -> x.simulate(2));
        Due.answer("simulate(3)", 15, () -> x.simulate(3));
    }

    private static void simulateChain() {
        GatePolynomials x = Circuits.withInputs(1);
        for (int wire = 2; wire <= 9; wire++) {
            x.gate(XOR, 2 * wire - 2, 1, 0);
        }
        Due.answer("simulate(0)", 0b010101010, () -> x.simulate(0));
        Due.answer("simulate(1)", 0b101010101, () -> x.simulate(1));
        Due.answer("simulate(0) again", 0b010101010, () -> x.simulate(0));
    }

    private static void simulateNoSet() {
        GatePolynomials x = Circuits.withInputs(4);
        for (int wrong : new int[] {-1, 16, 31, 512, 1 << 30, Integer.MIN_VALUE, Integer.MIN_VALUE + 1}) {
            Circuits.refused(x, "simulate(" + wrong + ")", Due.ARGUMENT, () -> x.simulate(wrong));
        }
        Due.answer("simulate(15)", 15, () -> x.simulate(15));
    }

    private static void simulateGatesWire() {
        GatePolynomials x = Circuits.small();
        for (int set = 4; set < 16; set++) {
            int given = set;
            Circuits.refused(x, "simulate(" + set + ")", Due.ARGUMENT, () -> x.simulate(given));
        }
        x.input();
        Due.answer("simulate(17) with input 5", 17, () -> x.simulate(17));
        Due.thrown("simulate(24) with input 5", Due.ARGUMENT, () -> x.simulate(24));
    }

    private static void evaluateNoClaim() {
        GatePolynomials none = new GatePolynomials();
        Due.answer("evaluate(0) without wires", 0, () -> none.evaluate(0));
        GatePolynomials x = Circuits.withInputs(9);
        Due.answer("evaluate(511)", 0, () -> x.evaluate(511));
    }

    private static void evaluateAll() {
        GatePolynomials x = Circuits.small();
        Due.answer("evaluate(0)", 5, () -> x.evaluate(0));
        Due.answer("evaluate(1)", 0, () -> x.evaluate(1));
        Due.answer("evaluate(2)", 5, () -> x.evaluate(2));
        Due.answer("evaluate(3)", 3, () -> x.evaluate(3));
    }

    private static void evaluateLong() {
        GatePolynomials x = Circuits.withInputs(2);
        Circuits.addTimes(x, 20, 1, Integer.MAX_VALUE);
        Circuits.addTimes(x, 20, 2, Integer.MIN_VALUE);
        Due.answer("evaluate(1)", 20L * Integer.MAX_VALUE, () -> x.evaluate(1));
        Due.answer("evaluate(2)", 20L * Integer.MIN_VALUE, () -> x.evaluate(2));
        Due.answer("evaluate(3)", -20, () -> x.evaluate(3));
    }

    private static void evaluateBesideProof() {
        GatePolynomials x = Circuits.smallProven();
        x.spoil(0, 0, 100);
        x.spoil(2, 0, 100);
        Due.answer("evaluate(0)", 5, () -> x.evaluate(0));
        Due.answer("lines()", 3, x::lines);
    }

    private static void evaluateNoSet() {
        GatePolynomials x = Circuits.withInputs(4);
        x.add(15, 1);
        for (int wrong : new int[] {-1, 16, 31, 512, 1 << 30, Integer.MIN_VALUE, Integer.MIN_VALUE + 1}) {
            Circuits.refused(x, "evaluate(" + wrong + ")", Due.ARGUMENT, () -> x.evaluate(wrong));
        }
        Due.answer("evaluate(15)", 1, () -> x.evaluate(15));
        GatePolynomials none = new GatePolynomials();
        Due.thrown("evaluate(1) without wires", Due.ARGUMENT, () -> none.evaluate(1));
    }

    private static void evaluateGatesWire() {
        GatePolynomials x = Circuits.small();
        for (int set = 4; set < 16; set++) {
            int given = set;
            Circuits.refused(x, "evaluate(" + set + ")", Due.ARGUMENT, () -> x.evaluate(given));
        }
    }
}

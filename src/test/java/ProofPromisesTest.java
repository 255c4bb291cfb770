/** The sentences of the promises 8 to 16: a proof, its lines, spoiling, checking and clearing; edge by edge. */
final class ProofPromisesTest {
    private static final int AND = Circuits.AND;
    private static final int XOR = Circuits.XOR;
    private static final int CHOICE = Circuits.CHOICE;
    private static final int MAJORITY = Circuits.MAJORITY;

    /** Where a proof has three lines. */
    private static final int[] NO_LINES_OF_THREE = {-1, 3, 4, 10, Integer.MIN_VALUE, Integer.MAX_VALUE};
    /** Where four wires are there. */
    private static final int[] NO_SETS_OF_FOUR = {-1, 16, 17, 512, Integer.MIN_VALUE, Integer.MAX_VALUE};

    private ProofPromisesTest() {
    }

    public static void main(String[] args) {
        sentences().run();
    }

    static Sentences sentences() {
        Sentences all = new Sentences();
        prove(all);
        looks(all);
        spoil(all);
        check(all);
        witnessAndClear(all);
        return all;
    }

    private static void prove(Sentences all) {
        all.section("Promise 8");
        all.test("Makes a proof: how many monomials its rest has", "a rest of 1 and of 40",
                ProofPromisesTest::restOfForty);
        all.test("(0: the equation holds whatever the inputs are).", "an equation that holds",
                ProofPromisesTest::equationHolds);
        all.test("(0: the equation holds whatever the inputs are).", "an equation that fails for one input",
                ProofPromisesTest::equationFailsOnce);
        String more = "ArithmeticException: a line would have more than 40 monomials.";
        all.test(more, "41 in the rest", ProofPromisesTest::fortyOneInRest);
        all.test(more, "41 in the middle", ProofPromisesTest::fortyOneInMiddle);
        all.test(more, "41 in line 1", ProofPromisesTest::fortyOneInLineOne);
        all.test(more, "far more than 40", ProofPromisesTest::farMoreThanForty);
        all.test(more, "40 in the claim", ProofPromisesTest::fortyInClaim);
        all.test(more, "more than 40 only before they are summed", ProofPromisesTest::fortyAfterSum);
    }

    private static void looks(Sentences all) {
        all.section("Promise 9");
        all.test("How many lines the proof has", "one line and ten lines", ProofPromisesTest::oneAndTenLines);
        all.test("; 0 when there is none.", "before a proof and after it", ProofPromisesTest::noLines);
        all.section("Promise 10");
        all.test("How many monomials a line has.", "none, some and 40", ProofPromisesTest::sizes);
        all.test("IllegalStateException: there is no proof;", "size without a proof", ProofPromisesTest::sizeUnproven);
        all.test("IndexOutOfBoundsException: there is no such line.", "size of lines below and above",
                ProofPromisesTest::sizeOfNoLine);
        all.section("Promise 11");
        all.test("Monomial i (from 0) of a line.", "the first and the last of 40", ProofPromisesTest::monomials);
        all.test("Monomial i (from 0) of a line.", "a spoilt line", ProofPromisesTest::spoiltMonomials);
        all.test("IllegalStateException: there is no proof;", "monomial without a proof",
                ProofPromisesTest::monomialUnproven);
        all.test("IndexOutOfBoundsException: there is no such line", "monomial of lines below and above",
                ProofPromisesTest::monomialOfNoLine);
        all.test(", or it has no such monomial.", "monomials below and above", ProofPromisesTest::noMonomial);
        all.section("Promise 12");
        all.test("The coefficient of a set in a line.", "sets with and without one", ProofPromisesTest::coefficients);
        all.test("IllegalStateException: there is no proof;", "coefficient without a proof",
                ProofPromisesTest::coefficientUnproven);
        all.test("IndexOutOfBoundsException: there is no such line", "coefficient in lines below and above",
                ProofPromisesTest::coefficientInNoLine);
        all.test(", or it is no set.", "coefficient of sets below and above",
                ProofPromisesTest::coefficientOfNoSet);
    }

    private static void spoil(Sentences all) {
        all.section("Promise 13");
        all.test("Adds to the coefficient of a set", "by 0, to 0 and from 0", ProofPromisesTest::spoilRoundZero);
        all.test("Adds to the coefficient of a set", "that line and nothing else", ProofPromisesTest::spoilOneLine);
        all.test("(of any wires) in a line", "wires that went, the empty and the full set",
                ProofPromisesTest::spoilAnyWires);
        all.test(": what it is then.", "more than an int holds", ProofPromisesTest::spoilLong);
        all.test("IllegalStateException: there is no proof;", "spoil without a proof",
                ProofPromisesTest::spoilUnproven);
        all.test("IndexOutOfBoundsException: there is no such line", "spoil of lines below and above",
                ProofPromisesTest::spoilNoLine);
        all.test(", or it is no set;", "spoil of sets below and above", ProofPromisesTest::spoilNoSet);
        String more = "ArithmeticException: the line would have more than 40 monomials.";
        all.test(more, "the 41st monomial", ProofPromisesTest::spoilFullLine);
        all.test(more, "the 40th monomial", ProofPromisesTest::spoilToFullLine);
        all.test(more, "a full line that gets no monomial more", ProofPromisesTest::spoilFullLineWithin);
        all.test(more, "a full line 0", ProofPromisesTest::spoilFullClaim);
    }

    private static void check(Sentences all) {
        all.section("Promise 14");
        all.test("Checks the proof as it is now", "spoilt and mended", ProofPromisesTest::checkMended);
        all.test(": the least k for which line k is not the claim (k = 0)", "line 0 spoilt",
                ProofPromisesTest::checkLineZero);
        all.test(": the least k for which line k is not the claim (k = 0)", "several lines spoilt",
                ProofPromisesTest::checkLeast);
        String comes = "or not what comes of line k - 1 as it is now (k above 0)";
        all.test(comes, "each of nine lines spoilt", ProofPromisesTest::checkEachLine);
        all.test(comes, "gates and inputs in turn", ProofPromisesTest::checkBetweenInputs);
        all.test(comes, "lines that come of a spoilt one", ProofPromisesTest::checkAfterSpoiltLine);
        all.test(comes, "another coefficient, another set", ProofPromisesTest::checkCoefficients);
        all.test(comes, "a line of which more than 40 monomials come", ProofPromisesTest::checkMoreThanForty);
        all.test("; as many as there are lines when there is no such k.", "one line and ten lines",
                ProofPromisesTest::checkAll);
        all.test("IllegalStateException: there is no proof.", "check without a proof",
                ProofPromisesTest::checkUnproven);
    }

    private static void witnessAndClear(Sentences all) {
        all.section("Promise 15");
        all.test("An input that shows that the rest is not 0", "the claim is not 0 there",
                ProofPromisesTest::witnessShows);
        all.test(": of its monomials the one with the fewest wires", "the fewest, not the least",
                ProofPromisesTest::witnessFewest);
        all.test(", of several the least", "several with as many wires", ProofPromisesTest::witnessLeast);
        all.test("; a set.", "the empty set and the full set", ProofPromisesTest::witnessSets);
        all.test("IllegalStateException: there is no proof;", "witness without a proof",
                ProofPromisesTest::witnessUnproven);
        all.test("NoSuchElementException: the rest has no monomials.", "a rest without monomials",
                ProofPromisesTest::witnessOfNothing);
        all.test("NoSuchElementException: the rest has no monomials.", "a rest spoilt and mended",
                ProofPromisesTest::witnessOfMendedRest);
        all.section("Promise 16");
        all.test("All is as at first", "wires, claim and proof are gone", ProofPromisesTest::clearAll);
        all.test("All is as at first", "a cleared object beside a new one", ProofPromisesTest::clearedAsNew);
        all.test(": how many wires there were.", "none and nine wires", ProofPromisesTest::clearAnswers);
    }

    private static void restOfForty() {
        Due.answer("prove() of 40", 40, Circuits.forty()::prove);
        GatePolynomials x = Circuits.withInputs(2);
        x.gate(AND, 2, 4, 0);
        x.add(4, 1);
        Due.answer("prove() of 1", 1, x::prove);
        Due.answer("size(1)", 1, () -> x.size(1));
        x.add(3, 1);
        x.add(7, 1);
        Due.answer("prove() of three with one sum", 1, x::prove);
        Circuits.dueLine(x, 1, 3, 3);
    }

    private static void equationHolds() {
        GatePolynomials x = Circuits.withInputs(3);
        x.gate(MAJORITY, 2, 4, 6);
        x.gate(XOR, 2, 4, 0);
        x.gate(XOR, 10, 6, 0);
        x.add(32, 1);
        x.add(8, 2);
        x.add(1, -1);
        x.add(2, -1);
        x.add(4, -1);
        Due.answer("prove() of a full adder", 0, x::prove);
        for (int inputs = 0; inputs < 8; inputs++) {
            int given = inputs;
            Due.answer("evaluate(" + inputs + ")", 0, () -> x.evaluate(given));
        }
        Due.answer("prove() of nothing", 0, new GatePolynomials()::prove);
    }

    private static void equationFailsOnce() {
        GatePolynomials x = Circuits.withInputs(3);
        x.gate(AND, 2, 4, 0);
        x.gate(AND, 6, 8, 0);
        x.add(16, 1);
        Due.answer("prove()", 1, x::prove);
        Due.answer("evaluate(6)", 0, () -> x.evaluate(6));
        Due.answer("evaluate(7)", 1, () -> x.evaluate(7));
        Due.answer("witness()", 7, x::witness);
    }

    private static void fortyOneInRest() {
        GatePolynomials x = Circuits.forty();
        Due.answer("prove() of 40", 40, x::prove);
        x.add(40, 1);
        Circuits.refused(x, "prove() of 41", Due.ARITHMETIC, x::prove);
        x.add(0, -1);
        Due.answer("prove() of 41 and one that went", 40, x::prove);
    }

    /** Wire 1 is 0 and in each monomial, so the rest has none; line 2 has 40 or 41. */
    private static void fortyOneInMiddle() {
        GatePolynomials x = new GatePolynomials();
        x.gate(AND, 0, 0, 0);
        for (int i = 0; i < 6; i++) {
            x.input();
        }
        x.gate(AND, 5, 7, 0);
        x.gate(AND, 9, 11, 0);
        x.add(256 + 128 + 1, 1);
        x.add(256 + 128 + 32 + 1, 1);
        for (int i = 0; i < 8; i++) {
            x.add(64 + 2 * i + 1, 1);
        }
        Due.answer("prove() with 40 in the middle", 0, x::prove);
        Due.answer("size(2)", 40, () -> x.size(2));
        Due.answer("size(3)", 0, () -> x.size(3));
        x.add(64 + 16 + 1, 1);
        Circuits.refused(x, "prove() with 41 in the middle", Due.ARITHMETIC, x::prove);
    }

    /** Wire 8 is wire 1 OR wire 2, three monomials for one; wire 7 is 0 and takes all of them away again. */
    private static void fortyOneInLineOne() {
        GatePolynomials x = Circuits.withInputs(6);
        x.gate(XOR, 2, 2, 0);
        x.gate(CHOICE, 2, 2, 4);
        for (int i = 0; i < 13; i++) {
            x.add(128 + 64 + 4 * i, 1);
        }
        x.add(64 + 56, 1);
        Due.answer("prove() with 40 in line 1", 0, x::prove);
        Due.answer("size(1)", 40, () -> x.size(1));
        x.add(64 + 60, 1);
        Circuits.refused(x, "prove() with 41 in line 1", Due.ARITHMETIC, x::prove);
    }

    private static void farMoreThanForty() {
        GatePolynomials x = Circuits.withInputs(8);
        x.gate(MAJORITY, 3, 5, 6);
        for (int i = 0; i < 31; i++) {
            x.add(256 + 8 * i, 1);
        }
        Circuits.refused(x, "prove() of 217", Due.ARITHMETIC, x::prove);
        Due.answer("wires()", 9, x::wires);
        Due.answer("add(0, 0)", 32, () -> x.add(0, 0));
    }

    private static void fortyInClaim() {
        GatePolynomials x = Circuits.withInputs(9);
        for (int i = 0; i < 40; i++) {
            x.add(511 - i, -1);
        }
        Due.answer("prove() of a claim of 40", 40, x::prove);
        Due.answer("monomial(0, 39)", 472, () -> x.monomial(0, 39));
        // All of the claim's monomials but one vanish, as wire 9 is 0.
        GatePolynomials y = Circuits.withInputs(8);
        y.gate(AND, 2, 3, 0);
        for (int i = 0; i < 39; i++) {
            y.add(511 - i, 1);
        }
        y.add(255, 1);
        Due.answer("prove() of a claim of 40 and a rest of 1", 1, y::prove);
    }

    /** What is summed up to a line may be many: only what is left in the line counts. */
    private static void fortyAfterSum() {
        GatePolynomials choice = Circuits.withInputs(8);
        choice.gate(CHOICE, 2, 4, 4);
        for (int i = 0; i < 39; i++) {
            choice.add(4 * i, 1);
        }
        choice.add(256 + 252, 1);
        Due.answer("prove() with a choice of twice wire 2", 40, choice::prove);
        Due.answer("monomial(1, 0)", 254, () -> choice.monomial(1, 0));

        // w7 = 1 - w1 - w2 + w1 w2, ten times; 30 of those 40 are in the claim already, with the other sign.
        GatePolynomials and = Circuits.withInputs(6);
        and.gate(AND, 3, 5, 0);
        for (int i = 0; i < 10; i++) {
            int others = 4 * i;
            and.add(64 + others, 1);
            and.add(others + 1, 1);
            and.add(others + 2, 1);
            and.add(others + 3, -1);
        }
        Due.answer("prove() of 70 that are 10", 10, and::prove);
        Due.answer("check()", 2, and::check);
    }

    private static void oneAndTenLines() {
        GatePolynomials inputs = Circuits.withInputs(9);
        inputs.prove();
        Due.answer("lines() without gates", 1, inputs::lines);
        GatePolynomials gates = Circuits.withGates(9);
        gates.prove();
        Due.answer("lines() of nine gates", 10, gates::lines);
        gates.spoil(9, 0, 1);
        Due.answer("lines() of a spoilt proof", 10, gates::lines);
        gates.prove();
        Due.answer("lines() of a second proof", 10, gates::lines);
    }

    private static void noLines() {
        GatePolynomials x = new GatePolynomials();
        Due.answer("lines() of a new object", 0, x::lines);
        x.gate(XOR, 0, 1, 0);
        x.add(1, 1);
        Due.answer("lines() before prove()", 0, x::lines);
        x.prove();
        Due.answer("lines() after prove()", 2, x::lines);
        x.add(1, 1);
        Due.answer("lines() after add(1, 1)", 0, x::lines);
        x.prove();
        x.clear();
        Due.answer("lines() after clear()", 0, x::lines);
    }

    private static void sizes() {
        GatePolynomials x = Circuits.smallProven();
        Due.answer("size(0)", 2, () -> x.size(0));
        Due.answer("size(1)", 4, () -> x.size(1));
        Due.answer("size(2)", 3, () -> x.size(2));
        x.spoil(1, 4, 5);
        Due.answer("size(1), one less", 3, () -> x.size(1));
        x.spoil(1, 15, 5);
        Due.answer("size(1), one more", 4, () -> x.size(1));
        GatePolynomials none = Circuits.withInputs(2);
        none.prove();
        Due.answer("size(0) of no claim", 0, () -> none.size(0));
        GatePolynomials full = Circuits.fortyProven();
        Due.answer("size(0) of 10", 10, () -> full.size(0));
        Due.answer("size(1) of 16", 16, () -> full.size(1));
        Due.answer("size(2) of 40", 40, () -> full.size(2));
    }

    private static void sizeUnproven() {
        GatePolynomials x = Circuits.small();
        Circuits.refused(x, "size(0)", Due.STATE, () -> x.size(0));
        for (int wrong : NO_LINES_OF_THREE) {
            Due.thrown("size(" + wrong + ")", Due.STATE, () -> x.size(wrong));
        }
    }

    private static void sizeOfNoLine() {
        GatePolynomials x = Circuits.smallProven();
        for (int wrong : NO_LINES_OF_THREE) {
            Circuits.refused(x, "size(" + wrong + ")", Due.INDEX, () -> x.size(wrong));
        }
        GatePolynomials ten = Circuits.withGates(9);
        ten.prove();
        Due.answer("size(9) of ten lines", 0, () -> ten.size(9));
        Due.thrown("size(10) of ten lines", Due.INDEX, () -> ten.size(10));
        ten.clear();
        ten.prove();
        Due.thrown("size(1) of one line", Due.INDEX, () -> ten.size(1));
    }

    private static void monomials() {
        GatePolynomials x = Circuits.fortyProven();
        for (int i = 0; i < 40; i++) {
            int at = i;
            Due.answer("monomial(2, " + i + ")", 39 - i, () -> x.monomial(2, at));
        }
        GatePolynomials two = Circuits.withInputs(9);
        two.add(0, 1);
        two.add(511, 1);
        two.prove();
        Due.answer("monomial(0, 0)", 511, () -> two.monomial(0, 0));
        Due.answer("monomial(0, 1)", 0, () -> two.monomial(0, 1));
    }

    private static void spoiltMonomials() {
        GatePolynomials x = Circuits.smallProven();
        Circuits.dueLine(x, 1, 5, 8, 4, -5, 1, -5, 0, 5);
        x.spoil(1, 15, -1);
        Circuits.dueLine(x, 1, 15, -1, 5, 8, 4, -5, 1, -5, 0, 5);
        x.spoil(1, 4, 5);
        Circuits.dueLine(x, 1, 15, -1, 5, 8, 1, -5, 0, 5);
        x.spoil(1, 0, -5);
        Circuits.dueLine(x, 1, 15, -1, 5, 8, 1, -5);
    }

    private static void monomialUnproven() {
        GatePolynomials x = Circuits.small();
        Circuits.refused(x, "monomial(0, 0)", Due.STATE, () -> x.monomial(0, 0));
        Due.thrown("monomial(-1, 0)", Due.STATE, () -> x.monomial(-1, 0));
        Due.thrown("monomial(0, -1)", Due.STATE, () -> x.monomial(0, -1));
        Due.thrown("monomial(9, 99)", Due.STATE, () -> x.monomial(9, 99));
    }

    private static void monomialOfNoLine() {
        GatePolynomials x = Circuits.smallProven();
        for (int wrong : NO_LINES_OF_THREE) {
            Circuits.refused(x, "monomial(" + wrong + ", 0)", Due.INDEX, () -> x.monomial(wrong, 0));
            Due.thrown("monomial(" + wrong + ", -1)", Due.INDEX, () -> x.monomial(wrong, -1));
        }
    }

    private static void noMonomial() {
        GatePolynomials x = Circuits.smallProven();
        Due.answer("monomial(1, 3)", 0, () -> x.monomial(1, 3));
        for (int wrong : new int[] {-1, 4, 5, 40, 512, Integer.MIN_VALUE, Integer.MAX_VALUE}) {
            Circuits.refused(x, "monomial(1, " + wrong + ")", Due.INDEX, () -> x.monomial(1, wrong));
        }
        GatePolynomials none = Circuits.withInputs(2);
        none.prove();
        Circuits.refused(none, "monomial(0, 0) of none", Due.INDEX, () -> none.monomial(0, 0));
        GatePolynomials full = Circuits.fortyProven();
        Due.answer("monomial(2, 39) of 40", 0, () -> full.monomial(2, 39));
        Due.thrown("monomial(2, 40) of 40", Due.INDEX, () -> full.monomial(2, 40));
    }

    private static void coefficients() {
        GatePolynomials x = Circuits.smallProven();
        long[][] due = new long[3][16];
        due[0][8] = 5;
        due[0][5] = -2;
        due[1][5] = 8;
        due[1][4] = -5;
        due[1][1] = -5;
        due[1][0] = 5;
        due[2][3] = 3;
        due[2][1] = -5;
        due[2][0] = 5;
        for (int line = 0; line < 3; line++) {
            for (int set = 0; set < 16; set++) {
                int k = line;
                int asked = set;
                Due.answer("coefficient(" + line + ", " + set + ")", due[k][asked], () -> x.coefficient(k, asked));
            }
        }
        GatePolynomials all = Circuits.withInputs(9);
        all.add(511, 7);
        all.prove();
        Due.answer("coefficient(0, 511)", 7, () -> all.coefficient(0, 511));
        Due.answer("coefficient(0, 255)", 0, () -> all.coefficient(0, 255));
    }

    private static void coefficientUnproven() {
        GatePolynomials x = Circuits.small();
        Circuits.refused(x, "coefficient(0, 8)", Due.STATE, () -> x.coefficient(0, 8));
        Due.thrown("coefficient(-1, 8)", Due.STATE, () -> x.coefficient(-1, 8));
        Due.thrown("coefficient(0, 16)", Due.STATE, () -> x.coefficient(0, 16));
        Due.thrown("coefficient(9, -1)", Due.STATE, () -> x.coefficient(9, -1));
    }

    private static void coefficientInNoLine() {
        GatePolynomials x = Circuits.smallProven();
        for (int wrong : NO_LINES_OF_THREE) {
            Circuits.refused(x, "coefficient(" + wrong + ", 0)", Due.INDEX, () -> x.coefficient(wrong, 0));
            Due.thrown("coefficient(" + wrong + ", -1)", Due.INDEX, () -> x.coefficient(wrong, -1));
        }
    }

    private static void coefficientOfNoSet() {
        GatePolynomials x = Circuits.smallProven();
        for (int wrong : NO_SETS_OF_FOUR) {
            Circuits.refused(x, "coefficient(1, " + wrong + ")", Due.INDEX, () -> x.coefficient(1, wrong));
        }
        GatePolynomials none = new GatePolynomials();
        none.prove();
        Due.answer("coefficient(0, 0) without wires", 0, () -> none.coefficient(0, 0));
        Due.thrown("coefficient(0, 1) without wires", Due.INDEX, () -> none.coefficient(0, 1));
    }

    private static void spoilRoundZero() {
        GatePolynomials x = Circuits.smallProven();
        Due.answer("spoil(1, 5, -1)", 7, () -> x.spoil(1, 5, -1));
        Due.answer("spoil(1, 5, 0)", 7, () -> x.spoil(1, 5, 0));
        Due.answer("spoil(1, 5, -7)", 0, () -> x.spoil(1, 5, -7));
        Circuits.dueLine(x, 1, 4, -5, 1, -5, 0, 5);
        Due.answer("spoil(1, 5, 0) of none", 0, () -> x.spoil(1, 5, 0));
        Circuits.dueLine(x, 1, 4, -5, 1, -5, 0, 5);
        Due.answer("spoil(1, 5, -3)", -3, () -> x.spoil(1, 5, -3));
        Circuits.dueLine(x, 1, 5, -3, 4, -5, 1, -5, 0, 5);
    }

    private static void spoilOneLine() {
        for (int line = 0; line < 3; line++) {
            GatePolynomials x = Circuits.smallProven();
            GatePolynomials as = Circuits.smallProven();
            int spoilt = line;
            Due.answer("spoil(" + line + ", 15, 2)", 2, () -> x.spoil(spoilt, 15, 2));
            for (int other = 0; other < 3; other++) {
                String before = Circuits.seenLine(as, other);
                Due.same("line " + other, other == line ? " 2 * 15" + before : before, Circuits.seenLine(x, other));
            }
            for (int inputs = 0; inputs < 4; inputs++) {
                int given = inputs;
                Due.answer("evaluate(" + inputs + ")", as.evaluate(inputs), () -> x.evaluate(given));
            }
            Due.answer("add(15, 0) was not counted before", 3, () -> x.add(15, 0));
            Due.answer("prove()", 3, x::prove);
        }
    }

    private static void spoilAnyWires() {
        GatePolynomials x = Circuits.smallProven();
        Due.answer("spoil(2, 8, 3) of a wire that went", 3, () -> x.spoil(2, 8, 3));
        Due.answer("spoil(2, 15, -4) of all wires", -4, () -> x.spoil(2, 15, -4));
        Due.answer("spoil(2, 0, 1) of no wire", 6, () -> x.spoil(2, 0, 1));
        Circuits.dueLine(x, 2, 15, -4, 8, 3, 3, 3, 1, -5, 0, 6);
        GatePolynomials gates = Circuits.withGates(9);
        gates.prove();
        Due.answer("spoil(9, 511, 1)", 1, () -> gates.spoil(9, 511, 1));
        Circuits.dueLine(gates, 9, 511, 1);
        GatePolynomials none = new GatePolynomials();
        none.prove();
        Due.answer("spoil(0, 0, 1) without wires", 1, () -> none.spoil(0, 0, 1));
    }

    private static void spoilLong() {
        GatePolynomials x = Circuits.smallProven();
        Due.answer("the greatest", 5L + Integer.MAX_VALUE, () -> x.spoil(0, 8, Integer.MAX_VALUE));
        Due.answer("the greatest twice", 5L + 2L * Integer.MAX_VALUE, () -> x.spoil(0, 8, Integer.MAX_VALUE));
        Due.answer("the least", Integer.MIN_VALUE, () -> x.spoil(0, 0, Integer.MIN_VALUE));
        Due.answer("the least twice", 2L * Integer.MIN_VALUE, () -> x.spoil(0, 0, Integer.MIN_VALUE));
        Due.answer("the coefficient", 2L * Integer.MIN_VALUE, () -> x.coefficient(0, 0));
        Due.answer("the size", 3, () -> x.size(0));
    }

    private static void spoilUnproven() {
        GatePolynomials x = Circuits.small();
        Circuits.refused(x, "spoil(0, 8, 1)", Due.STATE, () -> x.spoil(0, 8, 1));
        Circuits.refused(x, "spoil(0, 8, 0)", Due.STATE, () -> x.spoil(0, 8, 0));
        Circuits.refused(x, "spoil(-1, 8, 1)", Due.STATE, () -> x.spoil(-1, 8, 1));
        Circuits.refused(x, "spoil(0, 16, 1)", Due.STATE, () -> x.spoil(0, 16, 1));
        x.prove();
        Circuits.dueLine(x, 0, 8, 5, 5, -2);
    }

    private static void spoilNoLine() {
        GatePolynomials x = Circuits.smallProven();
        for (int wrong : NO_LINES_OF_THREE) {
            Circuits.refused(x, "spoil(" + wrong + ", 0, 1)", Due.INDEX, () -> x.spoil(wrong, 0, 1));
            Circuits.refused(x, "spoil(" + wrong + ", 0, 0)", Due.INDEX, () -> x.spoil(wrong, 0, 0));
        }
    }

    private static void spoilNoSet() {
        GatePolynomials x = Circuits.smallProven();
        for (int wrong : NO_SETS_OF_FOUR) {
            Circuits.refused(x, "spoil(1, " + wrong + ", 1)", Due.INDEX, () -> x.spoil(1, wrong, 1));
            Circuits.refused(x, "spoil(1, " + wrong + ", 0)", Due.INDEX, () -> x.spoil(1, wrong, 0));
        }
    }

    private static void spoilFullLine() {
        GatePolynomials x = Circuits.fortyProven();
        for (int set : new int[] {40, 63, 64, 255}) {
            Circuits.refused(x, "spoil(2, " + set + ", 1)", Due.ARITHMETIC, () -> x.spoil(2, set, 1));
            Circuits.refused(x, "spoil(2, " + set + ", -1)", Due.ARITHMETIC, () -> x.spoil(2, set, -1));
        }
        Due.answer("coefficient(2, 40)", 0, () -> x.coefficient(2, 40));
        Due.answer("size(2)", 40, () -> x.size(2));
        Due.answer("spoil(1, 255, 1) of another line", 1, () -> x.spoil(1, 255, 1));
    }

    private static void spoilToFullLine() {
        GatePolynomials x = Circuits.fortyProven();
        for (int i = 16; i < 40; i++) {
            int set = 192 + i;
            Due.answer("spoil(1, " + set + ", 2)", 2, () -> x.spoil(1, set, 2));
        }
        Due.answer("size(1)", 40, () -> x.size(1));
        Circuits.refused(x, "spoil(1, 255, 2)", Due.ARITHMETIC, () -> x.spoil(1, 255, 2));
    }

    private static void spoilFullLineWithin() {
        GatePolynomials x = Circuits.fortyProven();
        Due.answer("spoil(2, 40, 0) of none", 0, () -> x.spoil(2, 40, 0));
        Due.answer("spoil(2, 39, 2) of one that is there", 3, () -> x.spoil(2, 39, 2));
        Due.answer("spoil(2, 39, -3) to 0", 0, () -> x.spoil(2, 39, -3));
        Due.answer("size(2)", 39, () -> x.size(2));
        Due.answer("spoil(2, 40, 1) at 39", 1, () -> x.spoil(2, 40, 1));
        Due.answer("size(2) again", 40, () -> x.size(2));
        Circuits.refused(x, "spoil(2, 39, 1) at 40", Due.ARITHMETIC, () -> x.spoil(2, 39, 1));
    }

    private static void spoilFullClaim() {
        GatePolynomials x = Circuits.withInputs(9);
        for (int set = 0; set < 40; set++) {
            x.add(set, 1);
        }
        x.prove();
        Circuits.refused(x, "spoil(0, 40, 1)", Due.ARITHMETIC, () -> x.spoil(0, 40, 1));
        Due.answer("spoil(0, 0, -1)", 0, () -> x.spoil(0, 0, -1));
        Due.answer("spoil(0, 40, 1) then", 1, () -> x.spoil(0, 40, 1));
        Due.answer("check()", 0, x::check);
    }

    private static void checkMended() {
        GatePolynomials x = Circuits.smallProven();
        Due.answer("a new proof", 3, x::check);
        for (int line = 0; line < 3; line++) {
            int spoilt = line;
            x.spoil(line, 15, 1);
            Due.answer("line " + line + " spoilt", spoilt, x::check);
            Due.answer("line " + line + " spoilt, again", spoilt, x::check);
            x.spoil(line, 15, -1);
            Due.answer("line " + line + " mended", 3, x::check);
        }
        x.spoil(1, 15, 0);
        Due.answer("line 1 spoilt by 0", 3, x::check);
        x.spoil(1, 0, 9);
        x.prove();
        Due.answer("a second proof", 3, x::check);
    }

    private static void checkLineZero() {
        GatePolynomials x = Circuits.smallProven();
        x.spoil(0, 1, 2);
        x.spoil(1, 1, 2);
        x.spoil(2, 1, 2);
        Due.answer("each line comes of the one before, but line 0 is not the claim", 0, x::check);
        GatePolynomials inputs = Circuits.withInputs(2);
        inputs.add(3, 4);
        inputs.prove();
        inputs.spoil(0, 3, -8);
        Due.answer("without gates", 0, inputs::check);
        GatePolynomials empty = new GatePolynomials();
        empty.prove();
        empty.spoil(0, 0, 1);
        Due.answer("without wires", 0, empty::check);
    }

    private static void checkLeast() {
        GatePolynomials x = Circuits.smallProven();
        x.spoil(2, 0, 1);
        Due.answer("line 2 spoilt", 2, x::check);
        x.spoil(1, 0, 3);
        Due.answer("lines 1 and 2 spoilt", 1, x::check);
        x.spoil(0, 0, 5);
        Due.answer("lines 0, 1 and 2 spoilt", 0, x::check);
        x.spoil(0, 0, -5);
        Due.answer("line 0 mended", 1, x::check);
        x.spoil(1, 0, -3);
        Due.answer("line 1 mended", 2, x::check);
        x.spoil(2, 0, -1);
        Due.answer("all mended", 3, x::check);
    }

    private static void checkEachLine() {
        for (int line = 0; line <= 9; line++) {
            GatePolynomials x = Circuits.withGates(9);
            x.add(256, 1);
            x.prove();
            int spoilt = line;
            x.spoil(line, 0, 1);
            Due.answer("line " + line + ", the empty set", spoilt, x::check);
            x.spoil(line, 0, -1);
            x.spoil(line, 511, 1);
            Due.answer("line " + line + ", the full set", spoilt, x::check);
            x.spoil(line, 511, -1);
            Due.answer("line " + line + " mended", 10, x::check);
        }
    }

    private static void checkBetweenInputs() {
        GatePolynomials x = Circuits.withInputs(1);
        x.gate(AND, 2, 2, 0);
        x.input();
        x.gate(XOR, 4, 6, 0);
        x.input();
        x.add(31, 2);
        x.add(18, 1);
        x.add(8, -1);
        Due.answer("prove()", 4, x::prove);
        Due.answer("no line spoilt", 3, x::check);
        for (int line = 0; line < 3; line++) {
            int spoilt = line;
            x.spoil(line, 20, 1);
            Due.answer("line " + line + " spoilt", spoilt, x::check);
            x.spoil(line, 20, -1);
        }
        Due.answer("all mended", 3, x::check);
    }

    /** A line that comes of a spoilt one is right itself: the spoilt one is the least that is not. */
    private static void checkAfterSpoiltLine() {
        GatePolynomials x = Circuits.smallProven();
        x.spoil(1, 4, 1);
        x.spoil(2, 3, 1);
        Due.answer("line 1 is wrong", 1, x::check);
        x.spoil(1, 4, -1);
        Due.answer("line 2 comes of what line 1 was", 2, x::check);
        x.spoil(1, 3, 1);
        Due.answer("line 2 comes of line 1, line 1 not of line 0", 1, x::check);
        x.spoil(0, 3, 1);
        Due.answer("line 1 comes of line 0, line 0 is not the claim", 0, x::check);
        x.add(3, 1);
        x.prove();
        Due.answer("line 0 is the claim", 3, x::check);
    }

    private static void checkCoefficients() {
        GatePolynomials x = Circuits.smallProven();
        x.spoil(1, 5, 1);
        Due.answer("the same sets, another coefficient", 1, x::check);
        x.spoil(1, 5, -1);
        x.spoil(1, 1, 5);
        x.spoil(1, 2, -5);
        Due.answer("as many monomials, another set", 1, x::check);
        x.spoil(1, 2, 5);
        x.spoil(1, 1, -5);
        x.spoil(1, 5, Integer.MIN_VALUE);
        x.spoil(1, 5, Integer.MIN_VALUE);
        Due.answer("a coefficient 2^32 away", 1, x::check);
        GatePolynomials first = new GatePolynomials();
        first.gate(AND, 1, 1, 0);
        first.add(1, 1);
        first.prove();
        first.spoil(1, 0, 1);
        Due.answer("the line of wire 1", 1, first::check);
    }

    private static void checkMoreThanForty() {
        GatePolynomials x = Circuits.fortyProven();
        x.spoil(1, 64 + 40, 1);
        Due.answer("44 come of line 1", 1, x::check);
        x.spoil(1, 64 + 40, -1);
        Due.answer("40 come of line 1", 3, x::check);
        for (int i = 1; i <= 30; i++) {
            x.spoil(0, 208 + i, 1);
        }
        Due.answer("size(0)", 40, () -> x.size(0));
        Due.answer("far more than 40 come of line 0", 0, x::check);
    }

    private static void checkAll() {
        GatePolynomials one = Circuits.withInputs(9);
        one.add(511, 3);
        one.prove();
        Due.answer("one line", 1, one::check);
        GatePolynomials ten = Circuits.withGates(9);
        ten.add(511, 3);
        ten.add(256, 1);
        ten.prove();
        Due.answer("ten lines", 10, ten::check);
        GatePolynomials empty = new GatePolynomials();
        empty.prove();
        Due.answer("one line without wires", 1, empty::check);
        Due.answer("lines of 40", 3, Circuits.fortyProven()::check);
    }

    private static void checkUnproven() {
        Due.thrown("a new object", Due.STATE, new GatePolynomials()::check);
        GatePolynomials x = Circuits.small();
        Circuits.refused(x, "before prove()", Due.STATE, x::check);
        x.prove();
        x.add(0, 0);
        Circuits.refused(x, "after add(0, 0)", Due.STATE, x::check);
        x.prove();
        x.clear();
        Circuits.refused(x, "after clear()", Due.STATE, x::check);
    }

    private static void witnessShows() {
        for (int literals = 0; literals < 512; literals++) {
            for (int kind = AND; kind <= MAJORITY; kind++) {
                GatePolynomials x = Circuits.withInputs(3);
                x.gate(kind, literals & 7, (literals >> 3) & 7, (literals >> 6) & 7);
                x.add(8, 1);
                x.add(literals & 7, -1);
                String gate = "kind " + kind + ", literals " + literals;
                if (x.prove() > 0) {
                    int shown = x.witness();
                    Due.that(gate + ": the claim is not 0", x.evaluate(shown) != 0);
                    Due.answer(gate + ": it is the coefficient", x.coefficient(1, shown), () -> x.evaluate(shown));
                }
            }
        }
    }

    private static void witnessFewest() {
        GatePolynomials x = Circuits.withInputs(9);
        x.add(127, 1);
        x.add(384, 1);
        x.add(511, 1);
        x.prove();
        Due.answer("two wires before seven", 384, x::witness);
        x.spoil(0, 256, -1);
        Due.answer("one wire before two", 256, x::witness);
        x.spoil(0, 0, 4);
        Due.answer("no wire before one", 0, x::witness);
        GatePolynomials rest = Circuits.smallProven();
        rest.spoil(2, 0, -5);
        rest.spoil(0, 2, 1);
        rest.spoil(1, 4, 1);
        Due.answer("of the rest alone", 1, rest::witness);
    }

    private static void witnessLeast() {
        GatePolynomials x = Circuits.withInputs(9);
        x.add(384, 1);
        x.add(3, 1);
        x.add(5, 1);
        x.prove();
        Due.answer("3, 5 and 384", 3, x::witness);
        x.spoil(0, 3, -1);
        Due.answer("5 and 384", 5, x::witness);
        x.spoil(0, 256, -9);
        x.spoil(0, 1, -9);
        Due.answer("1 and 256", 1, x::witness);
    }

    private static void witnessSets() {
        GatePolynomials full = Circuits.withInputs(9);
        full.add(511, 1);
        full.prove();
        Due.answer("the full set", 511, full::witness);
        GatePolynomials empty = Circuits.withGates(9);
        empty.add(256, 1);
        empty.prove();
        Due.answer("the empty set", 0, empty::witness);
        GatePolynomials none = new GatePolynomials();
        none.add(0, -1);
        none.prove();
        Due.answer("the empty set without wires", 0, none::witness);
    }

    private static void witnessUnproven() {
        Due.thrown("a new object", Due.STATE, new GatePolynomials()::witness);
        GatePolynomials x = Circuits.small();
        Circuits.refused(x, "before prove()", Due.STATE, x::witness);
        x.prove();
        x.input();
        Circuits.refused(x, "after input()", Due.STATE, x::witness);
    }

    private static void witnessOfNothing() {
        GatePolynomials x = Circuits.withInputs(2);
        x.gate(XOR, 2, 2, 0);
        x.add(4, 9);
        x.prove();
        Circuits.refused(x, "an equation that holds", Due.NO_ELEMENT, x::witness);
        GatePolynomials empty = new GatePolynomials();
        empty.prove();
        Circuits.refused(empty, "without wires", Due.NO_ELEMENT, empty::witness);
    }

    private static void witnessOfMendedRest() {
        GatePolynomials x = Circuits.withInputs(2);
        x.gate(XOR, 2, 2, 0);
        x.add(4, 9);
        x.prove();
        x.spoil(1, 3, 1);
        Due.answer("spoilt", 3, x::witness);
        x.spoil(1, 3, -1);
        Due.thrown("mended", Due.NO_ELEMENT, x::witness);
        GatePolynomials taken = Circuits.withInputs(1);
        taken.add(1, 4);
        taken.prove();
        taken.spoil(0, 1, -4);
        Due.thrown("the one monomial taken away", Due.NO_ELEMENT, taken::witness);
    }

    private static void clearAll() {
        GatePolynomials x = Circuits.fortyProven();
        x.clear();
        Due.answer("wires()", 0, x::wires);
        Due.answer("evaluate(0)", 0, () -> x.evaluate(0));
        Circuits.dueNoProof("after clear()", x);
        Due.thrown("simulate(1)", Due.ARGUMENT, () -> x.simulate(1));
        Due.thrown("add(1, 1)", Due.ARGUMENT, () -> x.add(1, 1));
        Due.thrown("gate(0, 2, 0, 0)", Due.ARGUMENT, () -> x.gate(AND, 2, 0, 0));
        for (int i = 1; i <= 40; i++) {
            Due.answer("add(0, 1)", i, () -> x.add(0, 1));
        }
        Due.thrown("add(0, 1) the 41st", Due.STATE, () -> x.add(0, 1));
        Due.answer("prove()", 1, x::prove);
        Circuits.dueLine(x, 0, 0, 40);
        Due.answer("lines()", 1, x::lines);
        Due.answer("check()", 1, x::check);
    }

    /** What was an input is a gate now and the other way round, so nothing of before may show. */
    private static void clearedAsNew() {
        GatePolynomials used = Circuits.withInputs(4);
        used.gate(XOR, 2, 4, 0);
        used.gate(AND, 4, 6, 0);
        used.gate(CHOICE, 6, 8, 10);
        used.gate(MAJORITY, 2, 7, 10);
        used.gate(XOR, 14, 16, 0);
        Circuits.addTimes(used, 20, 0, 1);
        Circuits.addTimes(used, 20, 256, -3);
        used.prove();
        used.spoil(1, 511, 8);
        used.clear();
        GatePolynomials fresh = new GatePolynomials();
        Due.same("cleared", Circuits.seen(fresh), Circuits.seen(used));
        for (GatePolynomials x : new GatePolynomials[] {used, fresh}) {
            x.gate(XOR, 0, 1, 0);
            x.input();
            x.gate(AND, 2, 4, 0);
            x.gate(CHOICE, 2, 5, 6);
            x.input();
            x.add(15, 2);
            x.add(24, -7);
        }
        Due.same("with wires and a claim", Circuits.seen(fresh), Circuits.seen(used));
        Due.answer("prove()", fresh.prove(), used::prove);
        Due.same("with a proof", Circuits.seen(fresh), Circuits.seen(used));
        Due.answer("add(0, 0)", 3, () -> used.add(0, 0));
    }

    private static void clearAnswers() {
        for (int wires = 0; wires <= 9; wires++) {
            GatePolynomials inputs = Circuits.withInputs(wires);
            Due.answer(wires + " inputs", wires, inputs::clear);
            Due.answer(wires + " inputs, again", 0, inputs::clear);
            GatePolynomials gates = Circuits.withGates(wires);
            gates.prove();
            Due.answer(wires + " gates", wires, gates::clear);
        }
        GatePolynomials x = Circuits.withInputs(9);
        Due.thrown("a tenth", Due.STATE, x::input);
        Due.answer("after a tenth", 9, x::clear);
    }
}

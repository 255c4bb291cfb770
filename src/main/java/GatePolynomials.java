import java.util.Arrays;
import java.util.NoSuchElementException;

/**
 * A circuit of gates, an equation between its wires (the claim is 0), and a proof in which the gates are
 * put into the claim one after the other, the latest first, until inputs alone are left.
 */
public final class GatePolynomials {
    private static final int MOST_WIRES = 9;
    private static final int MOST_SETS = 512;
    private static final int MOST_ADDITIONS = 40;
    private static final int MOST_MONOMIALS = 40;

    private static final int AND = 0;
    private static final int XOR = 1;
    private static final int CHOICE = 2;
    private static final int MAJORITY = 3;

    /** The gate of wire w stands at place w - 1; where wire w is an input, that place has no meaning. */
    private final Gate[] gates = new Gate[MOST_WIRES];
    private int wireCount;
    private int inputWires;

    private final Polynomial claim = new Polynomial();
    private int additions;

    /** Line k stands at place k; places from lineCount on have no meaning. */
    private final Polynomial[] proof = new Polynomial[MOST_WIRES + 1];
    private int lineCount;

    /** Where check works out what a line should be: a row of its own, so that no call makes one. */
    private final Polynomial expected = new Polynomial();

    public GatePolynomials() {
        for (int i = 0; i < gates.length; i++) {
            gates[i] = new Gate();
        }
        for (int i = 0; i < proof.length; i++) {
            proof[i] = new Polynomial();
        }
    }

    public int input() throws IllegalStateException {
        refuseTenthWire();
        inputWires |= bitOf(wireCount + 1);
        return countNewWire();
    }

    public int gate(int kind, int a, int b, int c) throws IllegalArgumentException, IllegalStateException {
        boolean known = kind >= AND && kind <= MAJORITY;
        boolean threefold = kind == CHOICE || kind == MAJORITY;
        if (!known || !isLiteral(a) || !isLiteral(b) || (threefold && !isLiteral(c))) {
            throw new IllegalArgumentException("no such kind or literal");
        }
        refuseTenthWire();
        gates[wireCount].become(kind, a, b, threefold ? c : 0);
        return countNewWire();
    }

    public int wires() {
        return wireCount;
    }

    public int add(int set, int number) throws IllegalArgumentException, IllegalStateException {
        if (!isSet(set)) {
            throw new IllegalArgumentException("no such set");
        }
        if (additions >= MOST_ADDITIONS) {
            throw new IllegalStateException("40 additions are there");
        }
        claim.increase(set, number);
        additions++;
        dropProof();
        return additions;
    }

    public int simulate(int inputs) throws IllegalArgumentException {
        refuseOtherThanInputs(inputs);
        return wiresThatAreOne(inputs);
    }

    public long evaluate(int inputs) throws IllegalArgumentException {
        refuseOtherThanInputs(inputs);
        return claim.valueWhere(wiresThatAreOne(inputs));
    }

    public int prove() throws ArithmeticException {
        // The lines are written in place: a proof that is there was made of this very claim and these very
        // wires, so this can fail only where there is no proof to be lost.
        proof[0].becomeCopy(claim);
        int last = 0;
        for (int wire = wireCount; wire >= 1; wire--) {
            if (isGate(wire)) {
                last++;
                proof[last].becomeElimination(proof[last - 1], bitOf(wire), gates[wire - 1]);
                if (proof[last].monomialCount() > MOST_MONOMIALS) {
                    throw new ArithmeticException("a line would have more than 40 monomials");
                }
            }
        }
        lineCount = last + 1;
        return proof[last].monomialCount();
    }

    public int lines() {
        return lineCount;
    }

    public int size(int line) throws IllegalStateException, IndexOutOfBoundsException {
        return lineAt(line).monomialCount();
    }

    public int monomial(int line, int i) throws IllegalStateException, IndexOutOfBoundsException {
        Polynomial asked = lineAt(line);
        if (i < 0 || i >= asked.monomialCount()) {
            throw new IndexOutOfBoundsException("no such monomial");
        }
        return asked.monomialAt(i);
    }

    public long coefficient(int line, int set) throws IllegalStateException, IndexOutOfBoundsException {
        Polynomial asked = lineAt(line);
        refuseSetOutside(set);
        return asked.numberOf(set);
    }

    public long spoil(int line, int set, int number)
            throws IllegalStateException, IndexOutOfBoundsException, ArithmeticException {
        Polynomial spoilt = lineAt(line);
        refuseSetOutside(set);
        boolean makesMonomial = number != 0 && spoilt.numberOf(set) == 0;
        if (makesMonomial && spoilt.monomialCount() >= MOST_MONOMIALS) {
            throw new ArithmeticException("the line would have more than 40 monomials");
        }
        return spoilt.increase(set, number);
    }

    public int check() throws IllegalStateException {
        refuseWithoutProof();
        if (!proof[0].isSameAs(claim)) {
            return 0;
        }
        int line = 0;
        for (int wire = wireCount; wire >= 1; wire--) {
            if (isGate(wire)) {
                line++;
                expected.becomeElimination(proof[line - 1], bitOf(wire), gates[wire - 1]);
                if (!proof[line].isSameAs(expected)) {
                    return line;
                }
            }
        }
        return lineCount;
    }

    public int witness() throws IllegalStateException, NoSuchElementException {
        refuseWithoutProof();
        Polynomial rest = proof[lineCount - 1];
        if (rest.monomialCount() == 0) {
            throw new NoSuchElementException("the rest has no monomials");
        }
        return rest.leastMonomialOfFewestWires();
    }

    public int clear() {
        int before = wireCount;
        wireCount = 0;
        inputWires = 0;
        claim.erase();
        additions = 0;
        dropProof();
        return before;
    }

    private int countNewWire() {
        wireCount++;
        dropProof();
        return wireCount;
    }

    private void dropProof() {
        lineCount = 0;
    }

    private void refuseTenthWire() {
        if (wireCount >= MOST_WIRES) {
            throw new IllegalStateException("nine wires are there");
        }
    }

    private void refuseOtherThanInputs(int set) {
        if ((set & ~inputWires) != 0) {
            throw new IllegalArgumentException("not a set of inputs");
        }
    }

    private void refuseWithoutProof() {
        if (lineCount == 0) {
            throw new IllegalStateException("there is no proof");
        }
    }

    private void refuseSetOutside(int set) {
        if (!isSet(set)) {
            throw new IndexOutOfBoundsException("no such set");
        }
    }

    private Polynomial lineAt(int line) {
        refuseWithoutProof();
        if (line < 0 || line >= lineCount) {
            throw new IndexOutOfBoundsException("no such line");
        }
        return proof[line];
    }

    private boolean isSet(int set) {
        return set >= 0 && set < (1 << wireCount);
    }

    private boolean isLiteral(int literal) {
        return literal >= 0 && literal <= 2 * wireCount + 1;
    }

    private boolean isGate(int wire) {
        return (inputWires & bitOf(wire)) == 0;
    }

    private int wiresThatAreOne(int inputs) {
        int ones = inputs;
        for (int wire = 1; wire <= wireCount; wire++) {
            if (isGate(wire) && gates[wire - 1].valueWhere(ones) == 1) {
                ones |= bitOf(wire);
            }
        }
        return ones;
    }

    private static int bitOf(int wire) {
        return 1 << (wire - 1);
    }

    /** A gate with its literals, and the same gate as a polynomial in the wires of its literals. */
    private static final class Gate {
        private static final int TERMS = 8;

        private int kind;
        private int a;
        private int b;
        private int c;

        /**
         * Term t stands for the wires of a, b and c after the bits 1, 2 and 4 of t. Where literals share a
         * wire, several terms have the same set: the polynomial is their sum, so they need not be joined.
         */
        private final int[] termSets = new int[TERMS];
        private final long[] termNumbers = new long[TERMS];

        void become(int newKind, int newA, int newB, int newC) {
            kind = newKind;
            a = newA;
            b = newB;
            c = newC;
            for (int term = 0; term < TERMS; term++) {
                setTermToValue(term, term & 1, (term >> 1) & 1, (term >> 2) & 1);
            }
            turnValuesToNumbers(1);
            turnValuesToNumbers(2);
            turnValuesToNumbers(4);
        }

        int valueWhere(int ones) {
            return outcome(literalWhere(a, ones), literalWhere(b, ones), literalWhere(c, ones));
        }

        /** Adds to a polynomial a number times this gate times the wires of a set. */
        void addProduct(Polynomial sum, int set, long number) {
            for (int term = 0; term < TERMS; term++) {
                sum.increase(set | termSets[term], number * termNumbers[term]);
            }
        }

        private void setTermToValue(int term, int wireOfA, int wireOfB, int wireOfC) {
            termSets[term] = wireOfA * wireBit(a) | wireOfB * wireBit(b) | wireOfC * wireBit(c);
            termNumbers[term] = outcome(literalFor(a, wireOfA), literalFor(b, wireOfB), literalFor(c, wireOfC));
        }

        /** One wire's step from a table of values to coefficients: what is there without it is taken off. */
        private void turnValuesToNumbers(int bit) {
            for (int term = 0; term < TERMS; term++) {
                if ((term & bit) != 0) {
                    termNumbers[term] -= termNumbers[term - bit];
                }
            }
        }

        private int outcome(int x, int y, int z) {
            switch (kind) {
                case AND:
                    return x & y;
                case XOR:
                    return x ^ y;
                case CHOICE:
                    return x == 1 ? y : z;
                default:
                    return x + y + z >= 2 ? 1 : 0;
            }
        }

        private static int literalWhere(int literal, int ones) {
            return literalFor(literal, (ones & wireBit(literal)) == 0 ? 0 : 1);
        }

        private static int literalFor(int literal, int wireValue) {
            return literal < 2 ? literal : wireValue ^ (literal & 1);
        }

        private static int wireBit(int literal) {
            return literal < 2 ? 0 : bitOf(literal / 2);
        }
    }

    /** A coefficient for each set that nine wires can have, and how many of them are not 0. */
    private static final class Polynomial {
        private final long[] numbers = new long[MOST_SETS];
        private int monomials;

        void erase() {
            Arrays.fill(numbers, 0L);
            monomials = 0;
        }

        void becomeCopy(Polynomial other) {
            System.arraycopy(other.numbers, 0, numbers, 0, MOST_SETS);
            monomials = other.monomials;
        }

        /** Makes this what comes of another polynomial (not this one) by eliminating the wire of a gate. */
        void becomeElimination(Polynomial other, int wireBit, Gate gate) {
            erase();
            for (int set = 0; set < MOST_SETS; set++) {
                long number = other.numbers[set];
                if (number != 0 && (set & wireBit) == 0) {
                    increase(set, number);
                } else if (number != 0) {
                    gate.addProduct(this, set - wireBit, number);
                }
            }
        }

        long increase(int set, long number) {
            long before = numbers[set];
            long after = before + number;
            if (before == 0 && after != 0) {
                monomials++;
            } else if (before != 0 && after == 0) {
                monomials--;
            }
            numbers[set] = after;
            return after;
        }

        long numberOf(int set) {
            return numbers[set];
        }

        int monomialCount() {
            return monomials;
        }

        /** Monomial i in falling order; there must be one. */
        int monomialAt(int i) {
            int left = i;
            for (int set = MOST_SETS - 1; set > 0; set--) {
                if (numbers[set] != 0) {
                    if (left == 0) {
                        return set;
                    }
                    left--;
                }
            }
            return 0;
        }

        /** There must be a monomial. */
        int leastMonomialOfFewestWires() {
            int best = 0;
            int fewest = MOST_WIRES + 1;
            for (int set = 0; set < MOST_SETS; set++) {
                if (numbers[set] != 0 && Integer.bitCount(set) < fewest) {
                    best = set;
                    fewest = Integer.bitCount(set);
                }
            }
            return best;
        }

        long valueWhere(int ones) {
            long sum = 0;
            for (int set = 0; set < MOST_SETS; set++) {
                if ((set & ~ones) == 0) {
                    sum += numbers[set];
                }
            }
            return sum;
        }

        boolean isSameAs(Polynomial other) {
            if (monomials != other.monomials) {
                return false;
            }
            for (int set = 0; set < MOST_SETS; set++) {
                if (numbers[set] != other.numbers[set]) {
                    return false;
                }
            }
            return true;
        }
    }
}

import java.util.ArrayList;
import java.util.List;
import java.util.NoSuchElementException;
import java.util.TreeMap;

/**
 * The document once more, in the slowest and plainest way: a polynomial is a map, and a wire is eliminated
 * as the term ELIMINATE tells it, by the values for all values of the wires.
 */
final class Model {
    private static final class Made {
        final boolean isInput;
        final int kind;
        final int a;
        final int b;
        final int c;

        Made(boolean isInput, int kind, int a, int b, int c) {
            this.isInput = isInput;
            this.kind = kind;
            this.a = a;
            this.b = b;
            this.c = c;
        }
    }

    private final List<Made> made = new ArrayList<>();
    private TreeMap<Integer, Long> claim = new TreeMap<>();
    private int additions = 0;
    private List<TreeMap<Integer, Long>> proof = null;

    int input() {
        if (made.size() == 9) {
            throw new IllegalStateException();
        }
        made.add(new Made(true, 0, 0, 0, 0));
        proof = null;
        return made.size();
    }

    int gate(int kind, int a, int b, int c) {
        if (kind < 0 || kind > 3 || noLiteral(a) || noLiteral(b) || kind > 1 && noLiteral(c)) {
            throw new IllegalArgumentException();
        }
        if (made.size() == 9) {
            throw new IllegalStateException();
        }
        made.add(new Made(false, kind, a, b, c));
        proof = null;
        return made.size();
    }

    int wires() {
        return made.size();
    }

    int add(int set, int number) {
        if (noSet(set)) {
            throw new IllegalArgumentException();
        }
        if (additions == 40) {
            throw new IllegalStateException();
        }
        increase(claim, set, number);
        additions++;
        proof = null;
        return additions;
    }

    int simulate(int inputs) {
        if (noSet(inputs)) {
            throw new IllegalArgumentException();
        }
        for (int w = 1; w <= made.size(); w++) {
            if (has(inputs, w) && !made.get(w - 1).isInput) {
                throw new IllegalArgumentException();
            }
        }
        int ones = 0;
        for (int w = 1; w <= made.size(); w++) {
            boolean one = made.get(w - 1).isInput ? has(inputs, w) : gateIsOne(w, ones);
            ones += one ? 1 << (w - 1) : 0;
        }
        return ones;
    }

    long evaluate(int inputs) {
        return value(claim, simulate(inputs));
    }

    int prove() {
        List<TreeMap<Integer, Long>> lines = new ArrayList<>();
        lines.add(new TreeMap<>(claim));
        for (int w : gatesFalling()) {
            TreeMap<Integer, Long> line = eliminated(w, lines.get(lines.size() - 1));
            if (line.size() > 40) {
                throw new ArithmeticException();
            }
            lines.add(line);
        }
        proof = lines;
        return lines.get(lines.size() - 1).size();
    }

    int lines() {
        return proof == null ? 0 : proof.size();
    }

    int size(int line) {
        return line(line).size();
    }

    int monomial(int line, int i) {
        List<Integer> falling = new ArrayList<>(line(line).descendingKeySet());
        if (i < 0 || i >= falling.size()) {
            throw new IndexOutOfBoundsException();
        }
        return falling.get(i);
    }

    long coefficient(int line, int set) {
        TreeMap<Integer, Long> asked = line(line);
        if (noSet(set)) {
            throw new IndexOutOfBoundsException();
        }
        return asked.getOrDefault(set, 0L);
    }

    long spoil(int line, int set, int number) {
        long before = coefficient(line, set);
        TreeMap<Integer, Long> spoilt = new TreeMap<>(line(line));
        increase(spoilt, set, number);
        if (spoilt.size() > 40) {
            throw new ArithmeticException();
        }
        proof.set(line, spoilt);
        return before + number;
    }

    int check() {
        needProof();
        if (!proof.get(0).equals(claim)) {
            return 0;
        }
        int k = 0;
        for (int w : gatesFalling()) {
            k++;
            if (!eliminated(w, proof.get(k - 1)).equals(proof.get(k))) {
                return k;
            }
        }
        return proof.size();
    }

    int witness() {
        needProof();
        TreeMap<Integer, Long> rest = proof.get(proof.size() - 1);
        for (int wires = 0; wires <= 9; wires++) {
            for (int set : rest.keySet()) {
                if (Integer.bitCount(set) == wires) {
                    return set;
                }
            }
        }
        throw new NoSuchElementException();
    }

    int clear() {
        int before = made.size();
        made.clear();
        claim = new TreeMap<>();
        additions = 0;
        proof = null;
        return before;
    }

    private void needProof() {
        if (proof == null) {
            throw new IllegalStateException();
        }
    }

    private TreeMap<Integer, Long> line(int line) {
        needProof();
        if (line < 0 || line >= proof.size()) {
            throw new IndexOutOfBoundsException();
        }
        return proof.get(line);
    }

    private boolean noSet(int set) {
        return set < 0 || set >= 1 << made.size();
    }

    private boolean noLiteral(int literal) {
        return literal < 0 || literal / 2 > made.size();
    }

    private List<Integer> gatesFalling() {
        List<Integer> wires = new ArrayList<>();
        for (int w = made.size(); w > 0; w--) {
            if (!made.get(w - 1).isInput) {
                wires.add(w);
            }
        }
        return wires;
    }

    private TreeMap<Integer, Long> eliminated(int w, TreeMap<Integer, Long> from) {
        int sets = 1 << made.size();
        long[] table = new long[sets];
        for (int ones = 0; ones < sets; ones++) {
            int without = ones & ~(1 << (w - 1));
            table[ones] = value(from, gateIsOne(w, ones) ? without | 1 << (w - 1) : without);
        }
        for (int bit = 1; bit < sets; bit <<= 1) {
            for (int set = 0; set < sets; set++) {
                table[set] -= (set & bit) != 0 ? table[set ^ bit] : 0;
            }
        }
        TreeMap<Integer, Long> to = new TreeMap<>();
        for (int set = 0; set < sets; set++) {
            if (table[set] != 0) {
                to.put(set, table[set]);
            }
        }
        return to;
    }

    private boolean gateIsOne(int w, int ones) {
        Made gate = made.get(w - 1);
        boolean a = literalIsOne(gate.a, ones);
        boolean b = literalIsOne(gate.b, ones);
        switch (gate.kind) {
            case 0:
                return a && b;
            case 1:
                return a != b;
            case 2:
                return a ? b : literalIsOne(gate.c, ones);
            default:
                boolean c = literalIsOne(gate.c, ones);
                return a == b ? a : c;
        }
    }

    private static boolean literalIsOne(int literal, int ones) {
        return literal < 2 ? literal == 1 : has(ones, literal / 2) == (literal % 2 == 0);
    }

    private static boolean has(int set, int w) {
        return (set >> (w - 1) & 1) == 1;
    }

    private static long value(TreeMap<Integer, Long> polynomial, int ones) {
        long sum = 0;
        for (var monomial : polynomial.entrySet()) {
            sum += (monomial.getKey() & ones) == monomial.getKey() ? monomial.getValue() : 0;
        }
        return sum;
    }

    private static void increase(TreeMap<Integer, Long> polynomial, int set, long number) {
        long after = polynomial.getOrDefault(set, 0L) + number;
        polynomial.put(set, after);
        polynomial.remove(set, 0L);
    }
}

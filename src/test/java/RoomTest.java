import java.lang.management.ManagementFactory;

/**
 * The room of one run: 600,000 objects, each of 16 bytes or more, and 7.3 million fields and elements of at most
 * 8 bytes. A run of 512 calls that makes fewer than 9.6 million bytes keeps to both.
 */
final class RoomTest {
    private static final int ROUNDS = 50;
    private static final int CALLS = 512;
    private static final long ROOM = 16L * 600_000;

    private RoomTest() {
    }

    public static void main(String[] args) {
        GatePolynomials x = new GatePolynomials();
        long warm = round(x);
        long before = bytesMade();
        long sum = 0;
        for (int i = 0; i < ROUNDS; i++) {
            sum += round(x);
        }
        long made = bytesMade() - before;
        Due.that("every round answers the same", sum == ROUNDS * warm);
        before = bytesMade();
        new GatePolynomials();
        long madeAtFirst = bytesMade() - before;
        // A whole round is taken for its dearest call.
        long run = madeAtFirst + made / ROUNDS * CALLS;
        Due.that("a run stays in its room, made were " + run + " bytes", run < ROOM);
        Due.end();
    }

    private static long bytesMade() {
        return ((com.sun.management.ThreadMXBean) ManagementFactory.getThreadMXBean())
                .getThreadAllocatedBytes(Thread.currentThread().getId());
    }

    private static long round(GatePolynomials x) {
        x.clear();
        for (int i = 0; i < 4; i++) {
            x.input();
        }
        for (int wire = 5; wire <= 9; wire++) {
            x.gate(wire % 4, 2 * wire - 2, 2 * wire - 5, 2 * wire - 8);
        }
        long sum = x.add(256, 3) + x.add(96, 1) + x.prove() + x.check() + x.lines() + x.wires();
        for (int line = 0; line < 6; line++) {
            sum += x.size(line) + x.monomial(line, 0) + x.coefficient(line, 7) + x.spoil(line, 3, 1);
        }
        return sum + x.check() + x.witness() + x.simulate(5) + x.evaluate(9);
    }
}

import java.lang.management.ManagementFactory;

/** What calls make is counted over a whole run: beside the constructor nothing is made but exceptions. */
final class RoomTest {
    private static final int ROUNDS = 50;

    private RoomTest() {
    }

    public static void main(String[] args) {
        GatePolynomials x = new GatePolynomials();
        long warm = round(x);
        long before = bytesMade();
        long sum = 0;
        for (int i = 0; i < ROUNDS; i++) {
            sum += round(x);
        }
        long made = bytesMade() - before;
        Due.that("every round answers the same", sum == ROUNDS * warm);
        Due.that("calls make nothing of their own, made were " + made + " bytes", made < 20_000);
        before = bytesMade();
        new GatePolynomials();
        made = bytesMade() - before;
        // 512 objects, one a call, stay under 7.3 million longs only if one stays under some 114,000 bytes.
        Due.that("a new object is small, made were " + made + " bytes", made < 114_000);
        Due.end();
    }

    private static long bytesMade() {
        return ((com.sun.management.ThreadMXBean) ManagementFactory.getThreadMXBean())
                .getThreadAllocatedBytes(Thread.currentThread().getId());
    }

    private static long round(GatePolynomials x) {
        x.clear();
        for (int i = 0; i < 4; i++) {
            x.input();
        }
        for (int wire = 5; wire <= 9; wire++) {
            x.gate(wire % 4, 2 * wire - 2, 2 * wire - 5, 2 * wire - 8);
        }
        long sum = x.add(256, 3) + x.add(96, 1) + x.prove() + x.check() + x.lines() + x.wires();
        for (int line = 0; line < 6; line++) {
            sum += x.size(line) + x.monomial(line, 0) + x.coefficient(line, 7) + x.spoil(line, 3, 1);
        }
        return sum + x.check() + x.witness() + x.simulate(5) + x.evaluate(9);
    }
}

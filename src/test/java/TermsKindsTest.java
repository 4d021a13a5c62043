import java.util.NoSuchElementException;

/** Terms: particles, their kinds, bits and momentum; the empty cell and the full one. */
public final class TermsKindsTest {
    public static void main(String[] args) {
        Expect expect = new Expect();
        expect.sentence("Terms", "A cell has at most one particle of each KIND 0 .. 6:",
                TermsKindsTest::atMostOne);
        expect.sentence("Terms", "those of the kinds 0 .. 5 fly in these directions, that of kind 6 RESTS.",
                TermsKindsTest::flyingAndResting);
        expect.sentence("Terms", "Its BITS are the sum of 1 << kind.",
                TermsKindsTest::bits);
        expect.sentence("Terms", "The MOMENTUM of a particle are two numbers: (1, 0), (0, 1), (-1, 1), (-1, 0), (0, "
                + "-1), (1, -1) for the kinds 0 .. 5, (0, 0) for kind 6.",
                TermsKindsTest::momentum);
        expect.end();
    }

    private static void atMostOne(Expect expect) {
        SixWayGas gas = Gases.filled(4, 4, 127);
        expect.equal("seven in a full cell", gas.sum(3, 3, 1, 1, 0), 7);
        gas.source(0, 0, 256);
        gas.source(3, 3, 256);
        gas.step(64);
        expect.equal("a full grid gets no second ones", gas.sum(0, 0, 4, 4, 0), 7 * 16);
        expect.equal("sources gave none", gas.book(1, 0), 0);
        gas.set(1, 1, 127);
        expect.equal("set puts none beside them", gas.sum(0, 0, 4, 4, 0), 7 * 16);
        SixWayGas empty = new SixWayGas(4, 4);
        empty.step(64);
        expect.equal("an empty grid stays empty", empty.sum(0, 0, 4, 4, 0), 0);
    }

    private static void flyingAndResting(Expect expect) {
        int[][] to = {{3, 2}, {2, 1}, {1, 1}, {1, 2}, {1, 3}, {2, 3}, {2, 2}};
        SixWayGas gas = new SixWayGas(8, 8);
        gas.set(2, 2, 127);
        gas.step(1);
        for (int kind = 0; kind <= 6; kind++) {
            expect.equal("kind " + kind, gas.get(to[kind][0], to[kind][1]), 1 << kind);
        }
    }

    private static void bits(Expect expect) {
        for (int bits = 0; bits <= 127; bits++) {
            for (int kind = 0; kind <= 6; kind++) {
                SixWayGas gas = new SixWayGas(4, 4);
                gas.set(3, 3, bits);
                boolean there = bits / (1 << kind) % 2 == 1;
                expect.equal("bits " + bits + " have kind " + kind, canMark(gas, kind), there);
            }
        }
    }

    private static boolean canMark(SixWayGas gas, int kind) {
        try {
            gas.mark(3, 3, kind);
            return true;
        } catch (NoSuchElementException e) {
            return false;
        }
    }

    private static void momentum(Expect expect) {
        int[][] due = {{1, 0}, {0, 1}, {-1, 1}, {-1, 0}, {0, -1}, {1, -1}, {0, 0}};
        for (int kind = 0; kind <= 6; kind++) {
            SixWayGas gas = new SixWayGas(4, 4);
            gas.set(0, 0, 1 << kind);
            expect.equal("first number of kind " + kind, gas.sum(0, 0, 4, 4, 1), due[kind][0]);
            expect.equal("second number of kind " + kind, gas.sum(0, 0, 4, 4, 2), due[kind][1]);
        }
        SixWayGas full = Gases.filled(16, 16, 127);
        expect.equal("first number of a full grid", full.sum(0, 0, 16, 16, 1), 0);
        expect.equal("second number of a full grid", full.sum(0, 0, 16, 16, 2), 0);
    }
}

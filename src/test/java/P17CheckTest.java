/** Promise 17: check. */
public final class P17CheckTest {
    public static void main(String[] args) {
        Expect expect = new Expect();
        expect.sentence("Promise 17", "The sum over all cells of bits * (y * 16 + x + 1).",
                P17CheckTest::everySize, P17CheckTest::everyCell, P17CheckTest::full, P17CheckTest::busy);
        expect.end();
    }

    private static void everySize(Expect expect) {
        for (int w = 4; w <= 16; w += 4) {
            for (int h = 4; h <= 16; h += 6) {
                SixWayGas gas = new SixWayGas(w, h);
                expect.equal("empty", gas.check(), 0);
                gas.set(w - 1, h - 1, 1);
                expect.equal("the last cell", gas.check(), (h - 1) * 16 + w);
                gas.set(0, 0, 64);
                expect.equal("the first cell too", gas.check(), (h - 1) * 16 + w + 64);
            }
        }
    }

    private static void everyCell(Expect expect) {
        for (int i = 0; i < 256; i++) {
            SixWayGas one = new SixWayGas(16, 16);
            one.set(i % 16, i / 16, 127);
            expect.equal("one full cell, " + Six.at(i % 16, i / 16), one.check(), 127 * (i + 1));
        }
    }

    private static void full(Expect expect) {
        SixWayGas small = Gases.filled(4, 4, 127);
        // The rows begin with 1, 17, 33 and 49, also where they are shorter than 16.
        expect.equal("a full small grid", small.check(), 127 * (10 + 74 + 138 + 202));
        SixWayGas full = new SixWayGas(16, 16);
        for (int i = 0; i < 256; i++) {
            full.set(i % 16, i / 16, 127);
        }
        expect.equal("full", full.check(), 127 * 256 * 257 / 2);
    }

    private static void busy(Expect expect) {
        SixWayGas gas = Gases.busy();
        int due = 0;
        for (int y = 0; y < 6; y++) {
            for (int x = 0; x < 8; x++) {
                due += gas.get(x, y) * (y * 16 + x + 1);
            }
        }
        expect.equal("busy", gas.check(), due);
    }
}

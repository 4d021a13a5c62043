/** Promise 2: set. */
public final class P02SetTest {
    public static void main(String[] args) {
        Expect expect = new Expect();
        expect.sentence("Promise 2", "A cell gets bits.",
                P02SetTest::everyBitsInEveryCell, P02SetTest::marksAreLost, P02SetTest::edgesTakeBitsToo);
        expect.sentence("Promise 2", "IllegalArgumentException when they are not 0 .. 127.",
                P02SetTest::wrongCalls);
        expect.end();
    }

    private static void everyBitsInEveryCell(Expect expect) {
        SixWayGas gas = new SixWayGas(4, 6);
        for (int bits = 0; bits < 128; bits++) {
            gas.set(bits % 4, bits % 6, bits);
            expect.equal("get after set " + bits, gas.get(bits % 4, bits % 6), bits);
        }
        gas = new SixWayGas(4, 4);
        gas.set(3, 2, 127);
        expect.equal("only the one cell", gas.sum(0, 0, 4, 4, 0), 7);
        for (int i = 0; i < 16; i++) {
            gas.set(i % 4, i / 4, 127);
            gas.set(i % 4, i / 4, i);
        }
        for (int i = 0; i < 16; i++) {
            expect.equal("other bits in the place of all in " + Six.at(i % 4, i / 4), gas.get(i % 4, i / 4), i);
        }
    }

    private static void marksAreLost(Expect expect) {
        SixWayGas gas = new SixWayGas(8, 8);
        gas.set(1, 1, 65);
        gas.set(2, 1, 65);
        gas.mark(1, 1, 0);
        gas.mark(1, 1, 6);
        gas.mark(2, 1, 0);
        gas.set(1, 1, 65);
        expect.equal("mark 0, same bits set", gas.marked(0), SixWayGas.NONE);
        expect.equal("mark 1, same bits set", gas.marked(1), SixWayGas.NONE);
        expect.equal("mark 2, in another cell", gas.marked(2), 128 + 16);
        gas.set(2, 1, 3);
        expect.equal("mark 2, other bits set", gas.marked(2), SixWayGas.NONE);
        gas.set(3, 3, 1);
        expect.equal("a new mark", gas.mark(3, 3, 0), 3);
        gas.set(3, 3, 0);
        expect.equal("mark 3, no bits set", gas.marked(3), SixWayGas.NONE);
    }

    private static void edgesTakeBitsToo(Expect expect) {
        SixWayGas gas = new SixWayGas(8, 8);
        gas.wall(0, 0, true);
        gas.source(1, 0, 1);
        gas.sink(2, 0, true);
        gas.body(3, 0, true);
        for (int x = 0; x < 4; x++) {
            gas.set(x, 0, 100 + x);
            expect.equal("bits in edge " + gas.edge(x, 0), gas.get(x, 0), 100 + x);
            expect.equal("edge stays", gas.edge(x, 0), x + 1);
            expect.equal("no book for set", gas.book(x, 0), 0);
        }
    }

    private static void wrongCalls(Expect expect) {
        SixWayGas gas = new SixWayGas(4, 4);
        gas.set(0, 0, 0);
        gas.set(3, 3, 127);
        expect.equal("0 is fine", gas.get(0, 0), 0);
        expect.equal("127 is fine", gas.get(3, 3), 127);
        int[] badBits = {-1, 128, Integer.MIN_VALUE, Integer.MAX_VALUE};
        for (int bits : badBits) {
            expect.refused("set(1, 1, " + bits + ")", IllegalArgumentException.class, Gases::busy, g -> g.set(1, 1, bits));
            expect.refused("set(8, 1, " + bits + ")", IndexOutOfBoundsException.class, Gases::busy, g -> g.set(8, 1, bits));
        }
        NoCell.refusedEverywhere(expect, "set", (g, x, y) -> g.set(x, y, 3));
    }
}

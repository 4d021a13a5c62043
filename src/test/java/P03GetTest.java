/** Promise 3: get. */
public final class P03GetTest {
    public static void main(String[] args) {
        Expect expect = new Expect();
        expect.sentence("Promise 3", "A cell's bits.",
                P03GetTest::everyCell, P03GetTest::fullAndEdges, P03GetTest::noCell);
        expect.end();
    }

    private static void everyCell(Expect expect) {
        SixWayGas gas = new SixWayGas(16, 4);
        for (int y = 0; y < 4; y++) {
            for (int x = 0; x < 16; x++) {
                expect.equal("a new cell", gas.get(x, y), 0);
                gas.set(x, y, y * 16 + x);
            }
        }
        for (int y = 0; y < 4; y++) {
            for (int x = 0; x < 16; x++) {
                expect.equal("get(" + x + ", " + y + ")", gas.get(x, y), y * 16 + x);
            }
        }
    }

    private static void fullAndEdges(Expect expect) {
        SixWayGas gas = new SixWayGas(16, 4);
        gas.set(0, 0, 127);
        gas.set(15, 3, 127);
        expect.equal("the first cell, full", gas.get(0, 0), 127);
        expect.equal("the last cell, full", gas.get(15, 3), 127);
        for (int sort = 1; sort <= 4; sort++) {
            Gases.putEdge(gas, sort, 0, sort);
            gas.set(sort, 0, sort);
            expect.equal("the bits of edge " + sort, gas.get(sort, 0), sort);
        }
    }

    private static void noCell(Expect expect) {
        NoCell.refusedEverywhere(expect, "get", (g, x, y) -> g.get(x, y));
    }
}

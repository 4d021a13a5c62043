/** Promise 9: edge. */
public final class P09EdgeTest {
    public static void main(String[] args) {
        Expect expect = new Expect();
        expect.sentence("Promise 9", "What a cell is: 0 none of these, 1 a wall, 2 a source, 3 a sink, 4 one of the "
                + "body.",
                P09EdgeTest::everySort, P09EdgeTest::movedBody, P09EdgeTest::noCell);
        expect.end();
    }

    private static void everySort(Expect expect) {
        SixWayGas gas = new SixWayGas(4, 4);
        gas.wall(0, 0, true);
        gas.source(3, 0, 1);
        gas.sink(0, 3, true);
        gas.body(3, 3, true);
        for (int y = 0; y < 4; y++) {
            for (int x = 0; x < 4; x++) {
                int due = 0;
                if (x % 3 == 0 && y % 3 == 0) {
                    due = 1 + x / 3 + y / 3 * 2;
                }
                expect.equal("edge(" + x + ", " + y + ")", gas.edge(x, y), due);
            }
        }
        gas.step(9);
        expect.equal("steps change no wall", gas.edge(0, 0), 1);
        expect.equal("steps change no source", gas.edge(3, 0), 2);
        expect.equal("steps change no sink", gas.edge(0, 3), 3);
    }

    private static void movedBody(Expect expect) {
        SixWayGas gas = new SixWayGas(4, 4);
        gas.mass(2);
        gas.body(3, 3, true);
        gas.set(2, 3, 1);
        gas.step(1);
        expect.equal("where the body was", gas.edge(3, 3), 0);
        expect.equal("where it went, around the grid", gas.edge(0, 3), 4);
    }

    private static void noCell(Expect expect) {
        NoCell.refusedEverywhere(expect, "edge", (g, x, y) -> g.edge(x, y));
    }
}

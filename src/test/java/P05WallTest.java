/** Promise 5: wall. */
public final class P05WallTest {
    public static void main(String[] args) {
        Expect expect = new Expect();
        EdgeSwitch edge = new EdgeSwitch("wall", 1, SixWayGas::wall);
        expect.sentence("Promise 5", "A cell is a wall, or not any more: whether that is new.",
                edge::onAndOff, edge::refusedForNoCell, P05WallTest::bouncing, P05WallTest::noMeeting,
                P05WallTest::goneWall, P05WallTest::firstAndLastCell);
        expect.sentence("Promise 5", "IllegalStateException when it is a source, a sink or one of the body.",
                edge::refusedOnOtherEdges);
        expect.end();
    }

    private static void bouncing(Expect expect) {
        int[] p = {1, 0, -1, -1, 0, 1};
        int[] q = {0, 1, 1, 0, -1, -1};
        for (int kind = 0; kind < 6; kind++) {
            // The walls make every cell round (3, 3) turn what arrives.
            SixWayGas gas = new SixWayGas(8, 8);
            for (int y = 0; y < 8; y++) {
                for (int x = 0; x < 8; x++) {
                    if (x != 3 || y != 3) {
                        gas.wall(x, y, true);
                    }
                }
            }
            gas.set(3, 3, 1 << kind);
            gas.mark(3, 3, kind);
            gas.step(1);
            expect.equal("kind turned", gas.marked(0) % 8, (kind + 3) % 6);
            expect.equal("walls gave no particle", gas.book(0, 0), 0);
            expect.equal("walls gave p", gas.book(0, 1), -2 * p[kind]);
            expect.equal("walls gave q", gas.book(0, 2), -2 * q[kind]);
            gas.step(1);
            expect.equal("back in the middle, flying back", gas.get(3, 3), 1 << (kind + 3) % 6);
        }
    }

    private static void noMeeting(Expect expect) {
        SixWayGas gas = new SixWayGas(8, 8);
        gas.wall(3, 3, true);
        gas.set(3, 3, 64 | 9);
        gas.step(1);
        expect.equal("the resting one stays, unturned", gas.get(3, 3), 64);
        expect.equal("0 flew unturned", gas.get(4, 3), 1);
        expect.equal("3 flew unturned", gas.get(2, 3), 8);
    }

    private static void goneWall(Expect expect) {
        SixWayGas gas = new SixWayGas(8, 8);
        gas.wall(3, 3, true);
        gas.wall(3, 3, false);
        gas.set(2, 3, 1);
        gas.step(1);
        expect.equal("no wall, no turn", gas.get(3, 3), 1);
        expect.equal("no wall, no book", gas.book(0, 1), 0);
    }

    private static void firstAndLastCell(Expect expect) {
        SixWayGas gas = new SixWayGas(8, 8);
        gas.wall(0, 0, true);
        gas.wall(7, 7, true);
        gas.set(7, 0, 1);
        gas.set(0, 7, 8);
        gas.step(1);
        expect.equal("the first cell", gas.get(0, 0), 8);
        expect.equal("the last cell", gas.get(7, 7), 1);
    }
}

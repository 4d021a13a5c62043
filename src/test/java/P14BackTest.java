/** Promise 14: back. */
public final class P14BackTest {
    public static void main(String[] args) {
        Expect expect = new Expect();
        expect.sentence("Promise 14", "Takes n steps back: the time then.",
                P14BackTest::thereAndBack, P14BackTest::belowZero, P14BackTest::everyBits,
                P14BackTest::withTheWallsOfNow, P14BackTest::marks, P14BackTest::otherBooksStay);
        expect.sentence("Promise 14", "IllegalArgumentException when n is not 0 .. 64;",
                P14BackTest::wrongNumbers);
        expect.sentence("Promise 14", "UnsupportedOperationException when there is a source, a sink or a cell of the "
                + "body.",
                P14BackTest::otherEdges);
        expect.end();
    }

    private static void thereAndBack(Expect expect) {
        for (int n : new int[] {0, 1, 2, 3, 10, 63, 64}) {
            SixWayGas gas = Gases.walled();
            gas.step(n);
            expect.equal("back " + n, gas.back(n), 0);
            expect.same("as before " + n + " steps", State.of(gas), State.of(Gases.walled()));
        }
        SixWayGas gas = Gases.walled();
        gas.step(30);
        gas.back(11);
        SixWayGas other = Gases.walled();
        other.step(19);
        expect.same("30 on, 11 back", State.of(gas), State.of(other));
    }

    private static void belowZero(Expect expect) {
        SixWayGas gas = Gases.walled();
        expect.equal("before 0", gas.back(1), -1);
        expect.equal("far before 0", gas.back(64), -65);
        expect.equal("forth again", gas.step(64), -1);
        expect.equal("and to 0", gas.step(1), 0);
        expect.same("as at first", State.of(gas), State.of(Gases.walled()));
    }

    private static void everyBits(Expect expect) {
        for (int bits = 0; bits < 128; bits++) {
            for (int y = 2; y < 4; y++) {
                SixWayGas gas = new SixWayGas(8, 8);
                gas.wall(3, y, true);
                gas.set(2, y, bits);
                gas.set(3, y, bits);
                String before = State.of(gas);
                gas.step(2);
                gas.back(2);
                expect.same("bits " + bits + " and back", State.of(gas), before);
            }
        }
    }

    /** A step back is one with the walls of now, even if there was none when it was made. */
    private static void withTheWallsOfNow(Expect expect) {
        SixWayGas gas = new SixWayGas(8, 8);
        gas.set(2, 3, 1);
        gas.step(1);
        gas.wall(3, 3, true);
        gas.back(1);
        // With the wall the particle of kind 0 in (3, 3) had come there as kind 3, from (4, 3).
        expect.equal("it comes from the other side", gas.get(4, 3), 8);
        expect.equal("the walls' book, as if they had given 2 by then", gas.book(0, 1), -2);
        gas.step(1);
        expect.equal("and goes there again", gas.get(3, 3), 1);
        expect.equal("the walls' book", gas.book(0, 1), 0);
    }

    private static void marks(Expect expect) {
        SixWayGas gas = new SixWayGas(8, 8);
        gas.wall(5, 3, true);
        gas.set(1, 1, 9);
        gas.set(4, 3, 65);
        gas.mark(1, 1, 0);
        gas.mark(1, 1, 3);
        gas.mark(4, 3, 0);
        gas.mark(4, 3, 6);
        String before = State.of(gas);
        gas.step(20);
        gas.back(20);
        expect.same("marks are where they were", State.of(gas), before);
        gas.set(1, 1, 9);
        gas.step(2);
        gas.back(2);
        expect.equal("lost is lost", gas.marked(0), SixWayGas.NONE);
        SixWayGas pair = new SixWayGas(8, 8);
        pair.set(2, 2, 36);
        pair.mark(2, 2, 2);
        pair.step(1);
        expect.equal("2 and 5 become 0 and 3: the lower is 0", pair.marked(0) % 8, 0);
        pair.back(1);
        expect.equal("and the lower is 2 again", pair.marked(0), 2 * 128 + 2 * 8 + 2);
    }

    private static void otherBooksStay(Expect expect) {
        SixWayGas gas = Gases.busy();
        gas.step(10);
        gas.source(4, 0, 0);
        gas.sink(0, 4, false);
        for (int y = 0; y < 6; y++) {
            for (int x = 0; x < 8; x++) {
                if (gas.edge(x, y) == 4) {
                    gas.body(x, y, false);
                }
            }
        }
        String before = books(gas);
        gas.back(13);
        expect.same("the books of sources, sinks and the body, and its account", books(gas), before);
    }

    private static String books(SixWayGas gas) {
        StringBuilder text = new StringBuilder();
        for (int kind = 1; kind < 4; kind++) {
            for (int field = 0; field < 3; field++) {
                text.append(gas.book(kind, field)).append(' ').append(gas.account(field)).append(' ');
            }
        }
        return text.toString();
    }

    private static void wrongNumbers(Expect expect) {
        expect.equal("0 is fine", new SixWayGas(4, 4).back(0), 0);
        expect.equal("64 is fine", new SixWayGas(4, 4).back(64), -64);
        for (int n : new int[] {-1, 65, Integer.MIN_VALUE, Integer.MAX_VALUE}) {
            expect.refused("back " + n, IllegalArgumentException.class, Gases::walled, g -> g.back(n));
            expect.refused("back " + n + " with other edges", IllegalArgumentException.class, Gases::busy, g -> g.back(n));
        }
    }

    private static void otherEdges(Expect expect) {
        for (int sort = 2; sort <= 4; sort++) {
            int there = sort;
            for (int n : new int[] {0, 1, 64}) {
                expect.refused("back " + n + " with edge " + sort, UnsupportedOperationException.class,
                        () -> EdgeSwitch.withEdge(there), g -> g.back(n));
            }
        }
        int[][] corners = {{0, 0}, {3, 0}, {0, 3}, {3, 3}};
        for (int[] corner : corners) {
            for (int sort = 2; sort <= 4; sort++) {
                int there = sort;
                expect.refused("back with edge " + sort + " in a corner", UnsupportedOperationException.class,
                        () -> withEdge(corner, there), g -> g.back(1));
            }
        }
        for (int sort = 2; sort <= 4; sort++) {
            SixWayGas gas = EdgeSwitch.withEdge(sort);
            Gases.takeEdge(gas, 2, 1, sort);
            expect.equal("edge " + sort + " is gone", gas.back(1), -1);
        }
        SixWayGas walls = new SixWayGas(4, 4);
        Gases.putEdges(walls, 4, 4, 1);
        expect.equal("nothing but walls", walls.back(1), -1);
        expect.equal("no edges", new SixWayGas(4, 4).back(1), -1);
        expect.equal("walls are no hindrance", EdgeSwitch.withEdge(1).back(2), -2);
    }

    private static SixWayGas withEdge(int[] place, int sort) {
        SixWayGas gas = new SixWayGas(4, 4);
        Gases.putEdge(gas, place[0], place[1], sort);
        return gas;
    }
}

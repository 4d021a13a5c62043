/** Promise 6: source. */
public final class P06SourceTest {
    public static void main(String[] args) {
        Expect expect = new Expect();
        expect.sentence("Promise 6", "A cell is a source with a rate, or none any more (rate 0).",
                P06SourceTest::onAndOff, P06SourceTest::everyCell, P06SourceTest::noCell, P06SourceTest::highestRate,
                P06SourceTest::byTheSeed, P06SourceTest::rowByRow);
        expect.sentence("Promise 6", "IllegalArgumentException when rate is not 0 .. 256;",
                P06SourceTest::wrongRates);
        expect.sentence("Promise 6", "IllegalStateException when it is a wall, a sink or one of the body.",
                P06SourceTest::otherEdges);
        expect.end();
    }

    private static void noCell(Expect expect) {
        NoCell.refusedEverywhere(expect, "source", (g, x, y) -> g.source(x, y, 256));
    }

    /** From the first cell to the last one, with the lowest and the highest rate, and rate 0 again. */
    private static void everyCell(Expect expect) {
        SixWayGas gas = new SixWayGas(4, 6);
        for (int rate : new int[] {1, 256, 0, 0}) {
            for (int i = 0; i < 24; i++) {
                gas.source(i % 4, i / 4, rate);
                expect.equal("rate " + rate + " in " + Six.at(i % 4, i / 4), gas.edge(i % 4, i / 4), rate > 0 ? 2 : 0);
            }
        }
        gas.step(1);
        expect.equal("rate 0 gives nothing", gas.check(), 0);
    }

    private static void onAndOff(Expect expect) {
        SixWayGas gas = new SixWayGas(8, 8);
        gas.source(1, 2, 0);
        expect.equal("rate 0 is none", gas.edge(1, 2), 0);
        gas.source(1, 2, 1);
        expect.equal("rate 1", gas.edge(1, 2), 2);
        gas.source(1, 2, 256);
        expect.equal("rate 256", gas.edge(1, 2), 2);
        expect.equal("none given yet", gas.check(), 0);
        gas.source(1, 2, 0);
        expect.equal("none any more", gas.edge(1, 2), 0);
        expect.equal("it may be a wall now", gas.wall(1, 2, true), true);
        for (int rate : new int[] {1, 256}) {
            SixWayGas again = new SixWayGas(8, 8);
            again.source(1, 2, 257 - rate);
            again.source(1, 2, rate);
            // By this seed the first seven draws are all 1 or above.
            again.seed(1);
            again.step(1);
            expect.equal("the rate is the new one, " + rate, again.book(1, 0), rate == 1 ? 0 : 7);
        }
    }

    private static void highestRate(Expect expect) {
        SixWayGas gas = new SixWayGas(8, 8);
        gas.source(3, 3, 256);
        gas.set(2, 3, 1);
        gas.step(1);
        expect.equal("all kinds are there", gas.get(3, 3), 127);
        expect.equal("given: all but the one that came", gas.book(1, 0), 6);
        expect.equal("given p", gas.book(1, 1), -1);
        expect.equal("given q", gas.book(1, 2), 0);
        gas.step(1);
        expect.equal("the six flew and were given again", gas.book(1, 0), 12);
        expect.equal("full again", gas.get(3, 3), 127);
    }

    private static void byTheSeed(Expect expect) {
        int[] seeds = {0, 1, -1, 12345, Integer.MIN_VALUE, Integer.MAX_VALUE};
        for (int start : seeds) {
            for (int rate = 1; rate <= 256; rate++) {
                SixWayGas gas = new SixWayGas(8, 8);
                gas.source(5, 5, rate);
                gas.seed(start);
                gas.step(1);
                int due = 0;
                int seed = start;
                for (int kind = 0; kind < 7; kind++) {
                    seed = seed * 1103515245 + 12345;
                    due |= (seed >>> 16 & 255) < rate ? 1 << kind : 0;
                }
                expect.equal("seed " + start + ", rate " + rate, gas.get(5, 5), due);
                expect.equal("given", gas.book(1, 0), Integer.bitCount(due));
            }
        }
    }

    /** The seed goes on from source to source, and for particles that are there already, too. */
    private static void rowByRow(Expect expect) {
        SixWayGas gas = new SixWayGas(8, 8);
        gas.source(0, 5, 100);
        gas.source(6, 2, 100);
        gas.source(2, 5, 100);
        gas.set(5, 2, 1);
        gas.seed(99);
        gas.step(1);
        int seed = 99;
        int[][] places = {{6, 2}, {0, 5}, {2, 5}};
        for (int[] place : places) {
            int due = place[1] == 2 ? 1 : 0;
            for (int kind = 0; kind < 7; kind++) {
                seed = seed * 1103515245 + 12345;
                due |= (seed >>> 16 & 255) < 100 ? 1 << kind : 0;
            }
            expect.equal("source in row " + place[1], gas.get(place[0], place[1]), due);
        }
    }

    private static void wrongRates(Expect expect) {
        for (int rate : new int[] {0, 256}) {
            SixWayGas gas = new SixWayGas(4, 4);
            gas.source(0, 0, rate);
            gas.step(1);
            expect.equal("rate " + rate + " is fine", gas.get(0, 0), rate == 0 ? 0 : 127);
        }
        int[] rates = {-1, 257, Integer.MIN_VALUE, Integer.MAX_VALUE};
        for (int rate : rates) {
            expect.refused("rate " + rate, IllegalArgumentException.class, Gases::busy, g -> g.source(1, 1, rate));
            expect.refused("rate " + rate + " for a source", IllegalArgumentException.class, Gases::busy,
                    g -> g.source(4, 0, rate));
            expect.refused("rate " + rate + " for a wall", IllegalArgumentException.class, Gases::busy,
                    g -> g.source(0, 0, rate));
            expect.refused("rate " + rate + " for no cell", IndexOutOfBoundsException.class, Gases::busy,
                    g -> g.source(0, 6, rate));
        }
    }

    private static void otherEdges(Expect expect) {
        for (int sort = 1; sort <= 4; sort++) {
            if (sort != 2) {
                int there = sort;
                for (int rate : new int[] {0, 1, 256}) {
                    expect.refused("source " + rate + " on edge " + sort, IllegalStateException.class,
                            () -> EdgeSwitch.withEdge(there), g -> g.source(2, 1, rate));
                }
            }
        }
    }
}

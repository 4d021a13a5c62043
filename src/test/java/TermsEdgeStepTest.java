/** Terms: what edges do in a step, at their boundaries. */
public final class TermsEdgeStepTest {
    public static void main(String[] args) {
        Expect expect = new Expect();
        expect.sentence("Terms", "EDGES, for the cells row by row: in a WALL or cell of the BODY each particle of a "
                + "kind k of 0 .. 5 becomes one of kind k + 3.",
                TermsEdgeStepTest::bounced);
        expect.sentence("Terms", "A SINK loses all its particles.",
                TermsEdgeStepTest::drained);
        expect.sentence("Terms", "A SOURCE: for each kind 0, 1, .. 6 the seed becomes seed * 1103515245 + 12345 (an "
                + "int, wrapping); if (seed >>> 16) & 255 is less than the rate, and it has no such particle, it "
                + "gets one.",
                TermsEdgeStepTest::lessThanTheRate, TermsEdgeStepTest::wrappingSeeds, TermsEdgeStepTest::rowByRow,
                TermsEdgeStepTest::hasOneAlready);
        expect.end();
    }

    /** A grid of the one edge full of the same bits: each cell gets these bits by flight, and turns them. */
    private static void bounced(Expect expect) {
        for (int sort = 1; sort <= 4; sort += 3) {
            for (int bits = 0; bits <= 127; bits++) {
                SixWayGas gas = Gases.filled(4, 4, bits);
                Gases.putEdges(gas, 4, 4, sort);
                gas.mass(10000);
                gas.step(1);
                for (int i = 0; i < 16; i++) {
                    expect.equal("edge " + sort + ", bits " + bits, gas.get(i % 4, i / 4), Six.bounced(bits));
                }
                gas.step(1);
                expect.equal("edge " + sort + ", bits " + bits + " again", gas.get(0, 0), bits);
            }
        }
        for (int kind = 0; kind < 6; kind++) {
            oneBounces(expect, kind);
        }
    }

    private static void oneBounces(Expect expect, int kind) {
        int[] due = {3, 4, 5, 0, 1, 2};
        int[][] cells = {{0, 0}, {3, 3}};
        for (int[] cell : cells) {
            for (int sort = 1; sort <= 4; sort += 3) {
                SixWayGas gas = new SixWayGas(4, 4);
                Gases.putEdge(gas, cell[0], cell[1], sort);
                int[] from = Six.whence(4, 4, cell, kind);
                gas.set(from[0], from[1], 1 << kind);
                gas.set(cell[0], cell[1], 64);
                gas.step(1);
                String what = "edge " + sort + " in " + Six.at(cell[0], cell[1]) + ", kind " + kind;
                expect.equal(what, gas.get(cell[0], cell[1]), 64 | 1 << due[kind]);
                gas.step(1);
                expect.equal(what + ", home again", gas.get(from[0], from[1]), 1 << due[kind]);
            }
        }
    }

    private static void drained(Expect expect) {
        for (int bits : new int[] {0, 1, 32, 64, 127}) {
            for (int at = 0; at <= 3; at += 3) {
                SixWayGas gas = Gases.filled(4, 4, bits);
                gas.sink(at, at, true);
                gas.step(1);
                expect.equal("a sink in " + Six.at(at, at) + " that gets " + bits, gas.get(at, at), 0);
                expect.equal("the others", gas.sum(0, 0, 4, 4, 0), 15 * Integer.bitCount(bits));
                expect.equal("taken", gas.book(2, 0), -Integer.bitCount(bits));
            }
        }
        SixWayGas gas = Gases.filled(4, 4, 127);
        Gases.putEdges(gas, 4, 4, 3);
        expect.equal("a grid of sinks before the step", gas.sum(0, 0, 4, 4, 0), 7 * 16);
        gas.step(1);
        expect.equal("a grid of sinks", gas.check(), 0);
        expect.equal("all taken", gas.book(2, 0), -7 * 16);
        gas.step(64);
        expect.equal("empty sinks take nothing", gas.book(2, 0), -7 * 16);
    }

    private static int next(int seed) {
        return (int) (seed * 1103515245L + 12345L);
    }

    private static int drawn(int seed) {
        return Math.floorMod(Math.floorDiv(seed, 65536), 256);
    }

    /** A seed by which the kind-th draw is that value. */
    private static int seedFor(int kind, int value) {
        for (int start = -100000; start < 100000; start++) {
            int seed = start;
            for (int i = 0; i <= kind; i++) {
                seed = next(seed);
            }
            if (drawn(seed) == value) {
                return start;
            }
        }
        throw new AssertionError("no such seed");
    }

    private static SixWayGas source(int seed, int rate) {
        SixWayGas gas = new SixWayGas(4, 4);
        gas.seed(seed);
        gas.source(3, 3, rate);
        gas.step(1);
        return gas;
    }

    /** Just below the rate it is given, at the rate it is not. */
    private static void lessThanTheRate(Expect expect) {
        for (int value : new int[] {0, 1, 2, 127, 128, 254, 255}) {
            for (int kind = 0; kind <= 6; kind++) {
                int seed = seedFor(kind, value);
                String what = "value " + value + " for kind " + kind;
                expect.equal(what + ", one less than the rate", source(seed, value + 1).get(3, 3) >> kind & 1, 1);
                if (value > 0) {
                    expect.equal(what + ", the rate", source(seed, value).get(3, 3) >> kind & 1, 0);
                }
            }
        }
    }

    private static void wrappingSeeds(Expect expect) {
        for (int start : new int[] {Integer.MIN_VALUE, Integer.MIN_VALUE + 1, -1, 0, 1, Integer.MAX_VALUE}) {
            for (int rate : new int[] {1, 64, 128, 255, 256}) {
                int seed = start;
                int due = 0;
                for (int kind = 0; kind <= 6; kind++) {
                    seed = next(seed);
                    due += drawn(seed) < rate ? 1 << kind : 0;
                }
                expect.equal("seed " + start + ", rate " + rate, source(start, rate).get(3, 3), due);
            }
        }
    }

    /** The first and the last cell, and the end of a row and the beginning of the next, put in the other way round. */
    private static void rowByRow(Expect expect) {
        int[][] places = {{0, 0}, {3, 0}, {0, 1}, {2, 1}, {1, 2}, {3, 3}};
        SixWayGas gas = new SixWayGas(4, 4);
        for (int i = places.length - 1; i >= 0; i--) {
            gas.source(places[i][0], places[i][1], 128);
        }
        gas.seed(2026);
        gas.step(1);
        int seed = 2026;
        for (int[] place : places) {
            int due = 0;
            for (int kind = 0; kind <= 6; kind++) {
                seed = next(seed);
                due += drawn(seed) < 128 ? 1 << kind : 0;
            }
            expect.equal("source in " + Six.at(place[0], place[1]), gas.get(place[0], place[1]), due);
        }
    }

    /** A full source gets none, but the seed goes on for it: the next source has the draws behind these. */
    private static void hasOneAlready(Expect expect) {
        SixWayGas gas = Gases.filled(4, 4, 127);
        gas.source(0, 0, 256);
        gas.step(1);
        expect.equal("full before, full behind", gas.get(0, 0), 127);
        expect.equal("none given", gas.book(1, 0), 0);
        SixWayGas two = new SixWayGas(4, 4);
        two.source(0, 0, 256);
        two.source(2, 2, 128);
        two.set(0, 0, 64);
        for (int kind = 0; kind < 6; kind++) {
            int[] from = Six.whence(4, 4, new int[] {0, 0}, kind);
            two.set(from[0], from[1], 1 << kind);
        }
        two.step(1);
        int seed = 0;
        int due = 0;
        for (int i = 0; i < 14; i++) {
            seed = next(seed);
            due += i >= 7 && drawn(seed) < 128 ? 1 << i - 7 : 0;
        }
        expect.equal("the first has all already", two.get(0, 0), 127);
        expect.equal("given by the second alone", two.book(1, 0), Integer.bitCount(due));
        expect.equal("the second has the draws behind", two.get(2, 2), due);
    }
}

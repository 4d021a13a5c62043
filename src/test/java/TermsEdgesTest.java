/** Terms: what a cell may be, and the time. */
public final class TermsEdgesTest {
    public static void main(String[] args) {
        Expect expect = new Expect();
        expect.sentence("Terms", "A cell may be a WALL, a SOURCE with a RATE (1 .. 256), a SINK, or one of the BODY, "
                + "and is at most one of these, at first none.",
                TermsEdgesTest::atFirstNone, TermsEdgesTest::atMostOne, TermsEdgesTest::everyCell,
                TermsEdgesTest::rates);
        expect.sentence("Terms", "TIME is an int, at first 0.",
                TermsEdgesTest::time);
        expect.end();
    }

    private static void atFirstNone(Expect expect) {
        SixWayGas gas = new SixWayGas(16, 16);
        for (int i = 0; i < 256; i++) {
            expect.equal("a new " + Six.at(i % 16, i / 16), gas.edge(i % 16, i / 16), 0);
        }
    }

    private static void atMostOne(Expect expect) {
        int[][] places = {{0, 0}, {3, 0}, {0, 3}, {3, 3}};
        for (int[] place : places) {
            for (int there = 1; there <= 4; there++) {
                for (int other = 1; other <= 4; other++) {
                    oneAfterTheOther(expect, place, there, other);
                }
            }
        }
    }

    private static void oneAfterTheOther(Expect expect, int[] place, int there, int other) {
        String what = "edge " + other + " on edge " + there + " in " + Six.at(place[0], place[1]);
        if (other != there) {
            expect.refused(what, IllegalStateException.class, () -> with(place, there),
                    g -> Gases.putEdge(g, place[0], place[1], other));
            expect.refused(what + " off", IllegalStateException.class, () -> with(place, there),
                    g -> Gases.takeEdge(g, place[0], place[1], other));
        }
        SixWayGas gas = with(place, there);
        Gases.takeEdge(gas, place[0], place[1], there);
        Gases.putEdge(gas, place[0], place[1], other);
        expect.equal(what + ", gone before", gas.edge(place[0], place[1]), other);
    }

    private static SixWayGas with(int[] place, int sort) {
        SixWayGas gas = Gases.filled(4, 4, 9);
        Gases.putEdge(gas, place[0], place[1], sort);
        return gas;
    }

    private static void everyCell(Expect expect) {
        for (int sort = 1; sort <= 4; sort++) {
            SixWayGas gas = new SixWayGas(4, 4);
            Gases.putEdges(gas, 4, 4, sort);
            for (int i = 0; i < 16; i++) {
                expect.equal("all are edge " + sort, gas.edge(i % 4, i / 4), sort);
            }
            gas.step(3);
            expect.equal("the first one still", gas.edge(0, 0), sort);
            expect.equal("the last one still", gas.edge(3, 3), sort);
        }
    }

    private static void rates(Expect expect) {
        SixWayGas gas = new SixWayGas(4, 4);
        gas.source(0, 0, 1);
        gas.source(3, 3, 256);
        expect.equal("rate 1", gas.edge(0, 0), 2);
        expect.equal("rate 256", gas.edge(3, 3), 2);
        for (int rate : new int[] {-1, 257}) {
            expect.refused("rate " + rate, IllegalArgumentException.class, () -> new SixWayGas(4, 4),
                    g -> g.source(0, 0, rate));
        }
    }

    private static void time(Expect expect) {
        expect.equal("time before any step", new SixWayGas(4, 4).step(0), 0);
        expect.equal("time, asked by back", new SixWayGas(4, 4).back(0), 0);
        expect.equal("one before", new SixWayGas(4, 4).back(1), -1);
        SixWayGas gas = new SixWayGas(4, 4);
        for (int calls = 1; calls <= 256; calls++) {
            expect.equal("far on", gas.step(64), 64 * calls);
        }
        gas = new SixWayGas(4, 4);
        for (int calls = 1; calls <= 256; calls++) {
            expect.equal("far back", gas.back(64), -64 * calls);
        }
        gas = new SixWayGas(8, 8);
        gas.set(2, 2, 9);
        gas.step(1);
        expect.equal("the first meeting is at 0: by 1", gas.get(2, 1), 2);
        expect.equal("the first meeting is at 0: by 4", gas.get(1, 3), 16);
    }
}

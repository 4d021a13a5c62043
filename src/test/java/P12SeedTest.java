/** Promise 12: seed. */
public final class P12SeedTest {
    public static void main(String[] args) {
        Expect expect = new Expect();
        expect.sentence("Promise 12", "The seed from now on (at first it is 0).",
                P12SeedTest::someSeeds, P12SeedTest::onlyWithSources);
        expect.end();
    }

    private static void someSeeds(Expect expect) {
        expect.equal("at first it is 0", after(false, 0, 1), after(true, 0, 1));
        for (int seed : new int[] {0, 1, 2, 77, -5, Integer.MIN_VALUE, Integer.MAX_VALUE}) {
            expect.equal("seed " + seed, after(true, seed, 1), due(seed, 1));
            expect.equal("seed " + seed + ", second step", after(true, seed, 2), due(seed, 2));
        }
    }

    /** The bits a source of rate 60 has that is emptied before each step. */
    private static int after(boolean seeded, int seed, int steps) {
        SixWayGas gas = new SixWayGas(8, 8);
        gas.source(3, 3, 60);
        if (seeded) {
            gas.seed(5);
            gas.seed(seed);
        }
        for (int i = 0; i < steps; i++) {
            gas.set(3, 3, 0);
            gas.step(1);
        }
        return gas.get(3, 3);
    }

    private static int due(int seed, int steps) {
        int bits = 0;
        int now = seed;
        for (int i = 0; i < steps; i++) {
            bits = 0;
            for (int kind = 0; kind < 7; kind++) {
                now = now * 1103515245 + 12345;
                bits |= (now >>> 16 & 255) < 60 ? 1 << kind : 0;
            }
        }
        return bits;
    }

    /** Steps without a source, and steps taken back, leave the seed. */
    private static void onlyWithSources(Expect expect) {
        SixWayGas gas = new SixWayGas(8, 8);
        gas.seed(31);
        gas.wall(1, 1, true);
        gas.sink(6, 6, true);
        gas.body(5, 1, true);
        gas.step(4);
        gas.sink(6, 6, false);
        gas.body(5, 1, false);
        gas.back(4);
        gas.source(3, 3, 60);
        gas.step(1);
        expect.equal("the seed is still 31", gas.get(3, 3), due(31, 1));
    }
}

/** Terms: what the books and the body's account hold, from nothing given to a whole grid of edges. */
public final class TermsBooksTest {
    public static void main(String[] args) {
        Expect expect = new Expect();
        expect.sentence("Terms", "BOOKS: walls, sources, sinks and the body (0, 1, 2, 3) have each three numbers, at "
                + "first 0: how many particles, and how much momentum (both numbers of it), they GAVE: what all "
                + "particles of the grid have behind it, less what they had before, added up over all edges of that "
                + "sort.",
                TermsBooksTest::atFirst, TermsBooksTest::nothingGiven, TermsBooksTest::oneOfEachKind,
                TermsBooksTest::allCells, TermsBooksTest::everyStepBalances);
        expect.sentence("Terms", "The body's ACCOUNT is what it got: two numbers, at first 0, that get less what it "
                + "gives.",
                TermsBooksTest::account);
        expect.end();
    }

    private static void books(Expect expect, String what, SixWayGas gas, int[][] due) {
        for (int kind = 0; kind < 4; kind++) {
            for (int field = 0; field < 3; field++) {
                expect.equal(what + ": book(" + kind + ", " + field + ")", gas.book(kind, field), due[kind][field]);
            }
        }
    }

    private static void atFirst(Expect expect) {
        books(expect, "at first", new SixWayGas(4, 4), new int[4][3]);
        SixWayGas gas = Gases.filled(16, 16, 127);
        gas.step(64);
        books(expect, "without edges", gas, new int[4][3]);
    }

    /** Empty edges, edges that particles rest in, and a source whose draws are all at the rate or above. */
    private static void nothingGiven(Expect expect) {
        for (int bits : new int[] {0, 64, 63, 127}) {
            SixWayGas gas = Gases.filled(4, 4, bits);
            gas.wall(0, 0, true);
            gas.body(3, 3, true);
            gas.step(1);
            books(expect, "wall and body with " + bits, gas, new int[4][3]);
        }
        SixWayGas gas = new SixWayGas(4, 4);
        gas.sink(3, 0, true);
        gas.source(0, 3, 1);
        gas.seed(1);
        gas.step(1);
        expect.equal("seed 1 draws no 0 in the first seven", gas.sum(0, 0, 4, 4, 0), 0);
        books(expect, "empty sink, source that gives none", gas, new int[4][3]);
    }

    /** Edges of each sort in the first and the last cell, both hit by that kind: each book has both. */
    private static void oneOfEachKind(Expect expect) {
        for (int kind = 0; kind < 6; kind++) {
            for (int sort = 1; sort <= 4; sort++) {
                SixWayGas gas = new SixWayGas(4, 4);
                for (int at = 0; at <= 3; at += 3) {
                    int[] from = Six.whence(4, 4, new int[] {at, at}, kind);
                    gas.set(from[0], from[1], 1 << kind);
                    Gases.putEdge(gas, at, at, sort);
                    if (sort == 2) {
                        gas.source(at, at, 256);
                    }
                }
                gas.step(1);
                // All seven have no momentum in all: what a full source gave is all but what was there.
                int[] turned = {0, -4 * Six.P[kind], -4 * Six.Q[kind]};
                int[] given = {12, -2 * Six.P[kind], -2 * Six.Q[kind]};
                int[] taken = {-2, -2 * Six.P[kind], -2 * Six.Q[kind]};
                int[][] due = new int[4][3];
                due[sort - 1] = sort == 2 ? given : sort == 3 ? taken : turned;
                books(expect, "kind " + kind + " in edges " + sort, gas, due);
            }
        }
    }

    private static void allCells(Expect expect) {
        for (int kind = 0; kind <= 6; kind++) {
            int p = Six.P[kind];
            int q = Six.Q[kind];
            int[][] once = {{0, -32 * p, -32 * q}, {6 * 16, -16 * p, -16 * q}, {-16, -16 * p, -16 * q}, {0, -32 * p, -32 * q}};
            for (int sort = 1; sort <= 4; sort++) {
                SixWayGas gas = Gases.filled(4, 4, 1 << kind);
                Gases.putEdges(gas, 4, 4, sort);
                for (int i = 0; sort == 2 && i < 16; i++) {
                    gas.source(i % 4, i / 4, 256);
                }
                gas.mass(10000);
                gas.step(1);
                int[][] due = new int[4][3];
                due[sort - 1] = once[sort - 1];
                books(expect, "all cells edges " + sort + ", kind " + kind, gas, due);
                gas.step(1);
                // The second step turns all back; sinks are empty and sources full by then.
                due[sort - 1] = sort == 1 || sort == 4 ? new int[3] : once[sort - 1];
                books(expect, "all cells edges " + sort + ", kind " + kind + ", second step", gas, due);
            }
        }
    }

    private static void everyStepBalances(Expect expect) {
        SixWayGas gas = Gases.busy();
        int[] put = new int[3];
        for (int field = 0; field < 3; field++) {
            put[field] = gas.sum(0, 0, 8, 6, field) - given(gas, field);
        }
        for (int i = 0; i < 25; i++) {
            gas.step(1);
            for (int field = 0; field < 3; field++) {
                expect.equal("balance at " + i, gas.sum(0, 0, 8, 6, field), put[field] + given(gas, field));
            }
        }
    }

    private static int given(SixWayGas gas, int field) {
        return gas.book(0, field) + gas.book(1, field) + gas.book(2, field) + gas.book(3, field);
    }

    private static void account(Expect expect) {
        expect.equal("p at first", new SixWayGas(4, 4).account(0), 0);
        expect.equal("q at first", new SixWayGas(4, 4).account(1), 0);
        for (int bits = 0; bits <= 127; bits++) {
            SixWayGas gas = Gases.filled(4, 4, bits);
            Gases.putEdges(gas, 4, 4, 4);
            gas.mass(10000);
            gas.step(1);
            for (int field = 1; field <= 2; field++) {
                int got = 0;
                for (int kind = 0; kind <= 6; kind++) {
                    got += (bits >> kind & 1) * 32 * (field == 1 ? Six.P[kind] : Six.Q[kind]);
                }
                expect.equal("all cells the body's, bits " + bits, gas.account(field - 1), got);
                expect.equal("and less what it gave, bits " + bits, gas.book(3, field), -got);
            }
        }
        SixWayGas others = Gases.filled(4, 4, 1);
        others.wall(0, 0, true);
        others.source(1, 1, 256);
        others.sink(2, 2, true);
        others.step(8);
        expect.equal("p of what others gave", others.account(0), 0);
        expect.equal("q of what others gave", others.account(1), 0);
    }
}

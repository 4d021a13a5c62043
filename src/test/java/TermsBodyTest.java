/** Terms: the body's mass and move, at their boundaries. */
public final class TermsBodyTest {
    public static void main(String[] args) {
        Expect expect = new Expect();
        expect.sentence("Terms", "THE BODY has a MASS, 1 .. 10000, at first 100.",
                TermsBodyTest::masses);
        expect.sentence("Terms", "ALONG direction d the account (p, q) is 2 * p + q, p + 2 * q, q - p, -2 * p - q, "
                + "-p - 2 * q, p - q for d = 0 .. 5.",
                TermsBodyTest::along);
        expect.sentence("Terms", "It moves by the first direction along which its account is twice the mass or more "
                + "(if there is none, or it has no cells, it does not move):",
                TermsBodyTest::twiceTheMass, TermsBodyTest::oneLess, TermsBodyTest::noCells);
        expect.sentence("Terms", "if the neighbour by d of one of its cells is a wall, source or sink, it does not "
                + "move.",
                TermsBodyTest::stopped, TermsBodyTest::stoppedByOneOfMany, TermsBodyTest::noOtherDirection);
        expect.sentence("Terms", "Else the neighbours by d of all its cells are the body's cells from now on, and no "
                + "others;",
                TermsBodyTest::aroundTheGrid, TermsBodyTest::wholeRow, TermsBodyTest::wholeGrid);
        expect.sentence("Terms", "of the cells that became the body's, and those that are not any more (there are as "
                + "many), the first of the former and the first of the latter, row by row, change all their "
                + "particles, and so on with the second ones;",
                TermsBodyTest::exchangeAroundTheGrid, TermsBodyTest::exchangeFullAndEmpty);
        expect.sentence("Terms", "and the account loses mass * the momentum of kind d.",
                TermsBodyTest::loses);
        expect.end();
    }

    /** A body of one cell, of a mass, that a particle of that kind will hit. */
    private static SixWayGas hit(int w, int h, int[] cell, int kind, int mass) {
        SixWayGas gas = new SixWayGas(w, h);
        gas.mass(mass);
        gas.body(cell[0], cell[1], true);
        int[] from = Six.whence(w, h, cell, kind);
        gas.set(from[0], from[1], 1 << kind);
        return gas;
    }

    /** A body that is column 4, pushed by 2 a row in every other step by what goes to and fro between it and a wall. */
    private static SixWayGas pushedColumn(int rows) {
        SixWayGas gas = new SixWayGas(16, 16);
        for (int y = 0; y < 16; y++) {
            gas.wall(3, y, true);
            gas.body(4, y, true);
            gas.set(3, y, y < rows ? 1 : 0);
        }
        return gas;
    }

    private static void masses(Expect expect) {
        SixWayGas gas = pushedColumn(1);
        gas.step(64);
        gas.step(34);
        expect.equal("mass 100, 49 pushes: p", gas.account(0), 98);
        expect.equal("mass 100, 49 pushes: not moved", gas.account(2), 0);
        gas.step(1);
        expect.equal("mass 100, 50 pushes: moved", gas.account(2), 1);
        expect.equal("mass 100, 50 pushes: p", gas.account(0), 0);
        gas = pushedColumn(16);
        gas.mass(10000);
        for (int i = 0; i < 9; i++) {
            gas.step(64);
        }
        gas.step(48);
        expect.equal("mass 10000, 312 pushes on 16 rows: p", gas.account(0), 9984);
        expect.equal("mass 10000, one short: not moved", gas.account(2), 0);
        gas.step(1);
        expect.equal("mass 10000: moved", gas.account(2), 1);
        expect.equal("mass 10000: p", gas.account(0), 16);
        gas = hit(4, 4, new int[] {1, 1}, 0, 1);
        gas.step(2);
        expect.equal("mass 1 moves twice by one push", gas.account(2), 2);
        for (int mass : new int[] {0, 10001}) {
            expect.refused("mass " + mass, IllegalArgumentException.class, Gases::busy, g -> g.mass(mass));
        }
    }

    /** Every push by each set of kinds, the mass being half of what it is along a direction, or a little more. */
    private static void along(Expect expect) {
        for (int set = 0; set < 64; set++) {
            for (int mass = 1; mass <= 9; mass++) {
                pushedBy(expect, set, mass);
            }
        }
    }

    private static void pushedBy(Expect expect, int set, int mass) {
        int[] cell = {3, 3};
        SixWayGas gas = new SixWayGas(8, 8);
        gas.body(3, 3, true);
        gas.mass(mass);
        int p = 0;
        int q = 0;
        for (int kind = 0; kind < 6; kind++) {
            if ((set >> kind & 1) != 0) {
                int[] from = Six.whence(8, 8, cell, kind);
                gas.set(from[0], from[1], 1 << kind);
                p += 2 * Six.P[kind];
                q += 2 * Six.Q[kind];
            }
        }
        int d = 0;
        while (d < 6 && Six.along(d, p, q) < 2 * mass) {
            d++;
        }
        gas.step(1);
        int[] to = d < 6 ? Six.neighbour(8, 8, cell, d) : cell;
        expect.equal("kinds " + set + ", mass " + mass, gas.edge(to[0], to[1]), 4);
        expect.equal("kinds " + set + ", mass " + mass + ": moved", gas.account(2), d < 6 ? 1 : 0);
    }

    private static void twiceTheMass(Expect expect) {
        for (int kind = 0; kind < 6; kind++) {
            SixWayGas gas = hit(8, 8, new int[] {3, 3}, kind, 2);
            gas.step(1);
            int[] to = Six.neighbour(8, 8, new int[] {3, 3}, kind);
            expect.equal("4 along " + kind + " is twice 2", gas.edge(to[0], to[1]), 4);
            gas = hit(8, 8, new int[] {3, 3}, kind, 3);
            gas.step(1);
            expect.equal("4 along " + kind + " is not twice 3", gas.edge(3, 3), 4);
            expect.equal("the account stays", gas.account(0), 2 * Six.P[kind]);
            // With mass 1 it is 2 along the directions beside it, twice the mass as well.
            int[] first = {0, 0, 1, 2, 3, 0};
            gas = hit(8, 8, new int[] {3, 3}, kind, 1);
            gas.step(1);
            to = Six.neighbour(8, 8, new int[] {3, 3}, first[kind]);
            expect.equal("the first for " + kind + " is " + first[kind], gas.edge(to[0], to[1]), 4);
        }
    }

    /** The account (-1, 2) is 3 along 1 and 2, and less along the others: one less than twice 2. */
    private static void oneLess(Expect expect) {
        SixWayGas gas = hit(8, 8, new int[] {3, 3}, 1, 1);
        gas.step(1);
        expect.equal("p", gas.account(0), -1);
        expect.equal("q", gas.account(1), 2);
        gas.mass(2);
        gas.step(3);
        expect.equal("3 is one less than twice 2", gas.account(2), 1);
        gas.mass(1);
        gas.step(1);
        expect.equal("3 is more than twice 1: moved", gas.account(2), 2);
        expect.equal("by 0 before, now by 1, not by 2", gas.edge(5, 2), 4);
    }

    private static void noCells(Expect expect) {
        SixWayGas gas = hit(8, 8, new int[] {3, 3}, 0, 3);
        gas.step(1);
        gas.body(3, 3, false);
        gas.mass(1);
        gas.step(5);
        expect.equal("without cells: moves", gas.account(2), 0);
        expect.equal("without cells: the account stays", gas.account(0), 2);
        gas.body(7, 7, true);
        gas.step(1);
        expect.equal("with the last cell it moves to the row's first", gas.edge(0, 7), 4);
        gas = new SixWayGas(8, 8);
        gas.mass(1);
        gas.body(0, 0, true);
        gas.step(64);
        expect.equal("account 0: it does not move", gas.account(2), 0);
    }

    private static void stopped(Expect expect) {
        int[][] cells = {{0, 0}, {7, 0}, {0, 7}, {7, 7}, {3, 3}};
        for (int[] cell : cells) {
            for (int kind = 0; kind < 6; kind++) {
                for (int sort = 0; sort <= 3; sort++) {
                    int[] to = Six.neighbour(8, 8, cell, kind);
                    SixWayGas gas = hit(8, 8, cell, kind, 2);
                    if (sort > 0) {
                        Gases.putEdge(gas, to[0], to[1], sort);
                    }
                    gas.step(1);
                    String what = Six.at(cell[0], cell[1]) + " by " + kind + " to edge " + sort;
                    expect.equal(what + ": there", gas.edge(to[0], to[1]), sort == 0 ? 4 : sort);
                    expect.equal(what + ": here", gas.edge(cell[0], cell[1]), sort == 0 ? 0 : 4);
                    expect.equal(what + ": moves", gas.account(2), sort == 0 ? 1 : 0);
                    expect.equal(what + ": p", gas.account(0), sort == 0 ? 0 : 2 * Six.P[kind]);
                    int[] withIt = sort == 0 ? to : cell;
                    expect.equal(what + ": bits", gas.get(withIt[0], withIt[1]), 1 << (kind + 3) % 6);
                }
            }
        }
    }

    /** Body in the first, the last and a middle cell: each of them alone can stop all. */
    private static void stoppedByOneOfMany(Expect expect) {
        int[][] cells = {{0, 0}, {3, 3}, {7, 7}};
        for (int[] blocked : cells) {
            SixWayGas gas = hit(8, 8, new int[] {3, 3}, 0, 2);
            for (int[] cell : cells) {
                gas.body(cell[0], cell[1], true);
            }
            gas.wall((blocked[0] + 1) % 8, blocked[1], true);
            gas.step(1);
            expect.equal("stopped at " + Six.at(blocked[0], blocked[1]), gas.account(2), 0);
            for (int[] cell : cells) {
                expect.equal(Six.at(cell[0], cell[1]) + " stays", gas.edge(cell[0], cell[1]), 4);
            }
        }
    }

    /** Hit by 3 with mass 1 the first direction is 2, and 3 and 4 are not tried. */
    private static void noOtherDirection(Expect expect) {
        SixWayGas gas = hit(8, 8, new int[] {3, 3}, 3, 1);
        gas.sink(3, 2, true);
        gas.step(4);
        expect.equal("moves", gas.account(2), 0);
        expect.equal("its place", gas.edge(3, 3), 4);
        gas.sink(3, 2, false);
        gas.step(1);
        expect.equal("free again: by 2", gas.edge(3, 2), 4);
    }

    private static void aroundTheGrid(Expect expect) {
        int[][] sizes = {{4, 4}, {16, 4}, {4, 16}, {16, 16}};
        for (int[] size : sizes) {
            int w = size[0];
            int h = size[1];
            int[][] cells = {{0, 0}, {w - 1, 0}, {0, h - 1}, {w - 1, h - 1}};
            for (int[] cell : cells) {
                for (int kind = 0; kind < 6; kind++) {
                    SixWayGas gas = hit(w, h, cell, kind, 2);
                    gas.step(1);
                    int[] to = Six.neighbour(w, h, cell, kind);
                    int bodies = 0;
                    for (int i = 0; i < w * h; i++) {
                        bodies += gas.edge(i % w, i / w) == 4 ? 1 : 0;
                    }
                    String what = w + " x " + h + " from " + Six.at(cell[0], cell[1]) + " by " + kind;
                    expect.equal(what, gas.edge(to[0], to[1]), 4);
                    expect.equal(what + ": cells", bodies, 1);
                }
            }
        }
    }

    /** Along its row it goes into itself; up from the first row it becomes the last one. */
    private static void wholeRow(Expect expect) {
        for (int kind = 0; kind < 2; kind++) {
            SixWayGas gas = new SixWayGas(4, 4);
            gas.mass(2);
            for (int x = 0; x < 4; x++) {
                gas.body(x, 0, true);
            }
            int[] from = Six.whence(4, 4, new int[] {2, 0}, kind);
            gas.set(from[0], from[1], 1 << kind);
            gas.set(3, 0, gas.get(3, 0) | 64);
            gas.step(1);
            expect.equal("moved by " + kind, gas.account(2), 1);
            expect.equal("paid for it: p", gas.account(0), 0);
            expect.equal("paid for it: q", gas.account(1), 0);
            int row = kind == 0 ? 0 : 3;
            for (int i = 0; i < 16; i++) {
                expect.equal("by " + kind + " " + Six.at(i % 4, i / 4), gas.edge(i % 4, i / 4), i / 4 == row ? 4 : 0);
            }
            expect.equal("what rests in it by " + kind, gas.get(3, row), 64);
            expect.equal("what bounced by " + kind, gas.get(2, row), kind == 0 ? 8 : 16);
        }
    }

    private static void wholeGrid(Expect expect) {
        SixWayGas gas = new SixWayGas(4, 4);
        Gases.putEdges(gas, 4, 4, 4);
        gas.mass(2);
        gas.set(0, 0, 8);
        gas.step(1);
        expect.equal("moved", gas.account(2), 1);
        expect.equal("paid for it", gas.account(0), 0);
        expect.equal("the particle stays where it bounced", gas.get(3, 0), 1);
        for (int i = 0; i < 16; i++) {
            expect.equal(Six.at(i % 4, i / 4), gas.edge(i % 4, i / 4), 4);
        }
    }

    /** The cell that goes around comes first among those gained, but last among those left: others change with it. */
    private static void exchangeAroundTheGrid(Expect expect) {
        SixWayGas gas = hit(8, 8, new int[] {4, 2}, 0, 2);
        gas.body(7, 2, true);
        gas.set(7, 2, 64);
        gas.set(0, 2, 64);
        gas.mark(7, 2, 6);
        gas.mark(0, 2, 6);
        gas.mark(3, 2, 0);
        gas.step(1);
        // Gained are (0, 2) and (5, 2), left (4, 2) and (7, 2).
        expect.equal("(0, 2) has what (4, 2) had", gas.get(0, 2), 8);
        expect.equal("(4, 2) has what (0, 2) had", gas.get(4, 2), 64);
        expect.equal("(5, 2) has what (7, 2) had", gas.get(5, 2), 64);
        expect.equal("(7, 2) has what (5, 2) had", gas.get(7, 2), 0);
        expect.equal("the mark from (7, 2)", gas.marked(0), Six.place(5, 2, 6));
        expect.equal("the mark from (0, 2)", gas.marked(1), Six.place(4, 2, 6));
        expect.equal("the mark that bounced", gas.marked(2), Six.place(0, 2, 3));
        gas = hit(8, 8, new int[] {3, 5}, 5, 2);
        gas.body(3, 7, true);
        gas.set(3, 7, 64);
        gas.step(1);
        // By 5: gained are (4, 0) and (4, 6), left (3, 5) and (3, 7).
        expect.equal("(4, 0) has what (3, 5) had", gas.get(4, 0), 4);
        expect.equal("(4, 6) has what (3, 7) had", gas.get(4, 6), 64);
    }

    private static void exchangeFullAndEmpty(Expect expect) {
        SixWayGas gas = hit(8, 8, new int[] {3, 3}, 0, 2);
        for (int kind = 1; kind < 6; kind++) {
            int[] from = Six.whence(8, 8, new int[] {4, 3}, kind);
            gas.set(from[0], from[1], gas.get(from[0], from[1]) | 1 << kind);
        }
        gas.set(3, 3, 1);
        gas.set(4, 3, 64);
        gas.step(1);
        expect.equal("a full cell and the body's change", gas.get(3, 3), 127);
        expect.equal("the body has what it had", gas.get(4, 3), 8);
        gas = hit(8, 8, new int[] {3, 3}, 0, 2);
        gas.step(1);
        expect.equal("an empty cell and the body's change", gas.get(3, 3), 0);
        expect.equal("the body has what it had, again", gas.get(4, 3), 8);
    }

    private static void loses(Expect expect) {
        for (int kind = 0; kind < 6; kind++) {
            for (int mass = 1; mass <= 2; mass++) {
                int[] first = mass == 2 ? new int[] {0, 1, 2, 3, 4, 5} : new int[] {0, 0, 1, 2, 3, 0};
                int d = first[kind];
                SixWayGas gas = hit(8, 8, new int[] {3, 3}, kind, mass);
                gas.step(1);
                expect.equal("p, kind " + kind + ", mass " + mass, gas.account(0), 2 * Six.P[kind] - mass * Six.P[d]);
                expect.equal("q, kind " + kind + ", mass " + mass, gas.account(1), 2 * Six.Q[kind] - mass * Six.Q[d]);
                expect.equal("no book has it", gas.book(3, 1), -2 * Six.P[kind]);
            }
        }
    }
}

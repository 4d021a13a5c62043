/** Terms: the grid, its cells, and their neighbours around it. */
public final class TermsGridTest {
    private static final int[][] SIZES = {{4, 4}, {4, 16}, {16, 4}, {16, 16}, {6, 10}};

    public static void main(String[] args) {
        Expect expect = new Expect();
        expect.sentence("Terms", "THE GRID has w columns and h rows; CELL (x, y) is in column x (0 .. w - 1) and row "
                + "y (0 .. h - 1).",
                TermsGridTest::cells);
        expect.sentence("Terms", "DIRECTIONS are 0 .. 5.",
                TermsGridTest::directions);
        expect.sentence("Terms", "The NEIGHBOUR of (x, y) by direction 0 is (x + 1, y), by 3 (x - 1, y); by 1 and 2 "
                + "it is in row y - 1, by 5 and 4 in row y + 1, and there, if y is even, in column x by 1 and 5 and "
                + "x - 1 by 2 and 4, if y is odd in column x + 1 by 1 and 5 and x by 2 and 4.",
                TermsGridTest::neighboursInside);
        expect.sentence("Terms", "Column w is column 0, column -1 is w - 1, and rows likewise.",
                TermsGridTest::aroundTheSmallest, TermsGridTest::aroundEverySize, TermsGridTest::wholeRounds);
        expect.end();
    }

    private static void cells(Expect expect) {
        for (int[] size : SIZES) {
            int w = size[0];
            int h = size[1];
            int[][] corners = {{0, 0}, {w - 1, 0}, {0, h - 1}, {w - 1, h - 1}};
            for (int[] corner : corners) {
                onlyThatCell(expect, w, h, corner);
            }
            int[][] behind = {{-1, 0}, {w, 0}, {0, -1}, {0, h}, {-1, h - 1}, {w, h - 1}, {w - 1, -1}, {w - 1, h}};
            for (int[] none : behind) {
                expect.refused("get in " + w + " x " + h + " for " + Six.at(none[0], none[1]),
                        IndexOutOfBoundsException.class, () -> new SixWayGas(w, h), g -> g.get(none[0], none[1]));
            }
        }
    }

    private static void onlyThatCell(Expect expect, int w, int h, int[] cell) {
        SixWayGas gas = new SixWayGas(w, h);
        gas.set(cell[0], cell[1], 127);
        for (int y = 0; y < h; y++) {
            for (int x = 0; x < w; x++) {
                int due = x == cell[0] && y == cell[1] ? 127 : 0;
                expect.equal(Six.at(x, y) + " with " + Six.at(cell[0], cell[1]) + " full", gas.get(x, y), due);
            }
        }
    }

    private static void directions(Expect expect) {
        for (int kind = 0; kind <= 6; kind++) {
            SixWayGas gas = new SixWayGas(8, 8);
            gas.set(2, 2, 1 << kind);
            gas.step(1);
            expect.equal("kind " + kind + " is a direction", gas.get(2, 2) == 0, kind < 6);
            expect.equal("kind " + kind + " is in the grid", gas.sum(1, 1, 3, 3, 0), 1);
        }
    }

    private static void neighboursInside(Expect expect) {
        fliesTo(expect, 8, 8, new int[] {2, 2}, new int[][] {{3, 2}, {2, 1}, {1, 1}, {1, 2}, {1, 3}, {2, 3}});
        fliesTo(expect, 8, 8, new int[] {2, 3}, new int[][] {{3, 3}, {3, 2}, {2, 2}, {1, 3}, {2, 4}, {3, 4}});
    }

    private static void aroundTheSmallest(Expect expect) {
        fliesTo(expect, 4, 4, new int[] {0, 0}, new int[][] {{1, 0}, {0, 3}, {3, 3}, {3, 0}, {3, 1}, {0, 1}});
        fliesTo(expect, 4, 4, new int[] {3, 0}, new int[][] {{0, 0}, {3, 3}, {2, 3}, {2, 0}, {2, 1}, {3, 1}});
        fliesTo(expect, 4, 4, new int[] {0, 3}, new int[][] {{1, 3}, {1, 2}, {0, 2}, {3, 3}, {0, 0}, {1, 0}});
        fliesTo(expect, 4, 4, new int[] {3, 3}, new int[][] {{0, 3}, {0, 2}, {3, 2}, {2, 3}, {3, 0}, {0, 0}});
    }

    /** Every cell of the first and last columns and rows. */
    private static void aroundEverySize(Expect expect) {
        for (int[] size : SIZES) {
            int w = size[0];
            int h = size[1];
            for (int y = 0; y < h; y++) {
                for (int x = 0; x < w; x++) {
                    if (x == 0 || y == 0 || x == w - 1 || y == h - 1) {
                        int[] from = {x, y};
                        int[][] to = new int[6][];
                        for (int kind = 0; kind < 6; kind++) {
                            to[kind] = Six.neighbour(w, h, from, kind);
                        }
                        fliesTo(expect, w, h, from, to);
                    }
                }
            }
        }
    }

    private static void fliesTo(Expect expect, int w, int h, int[] from, int[][] to) {
        for (int kind = 0; kind < 6; kind++) {
            SixWayGas gas = new SixWayGas(w, h);
            gas.set(from[0], from[1], 1 << kind);
            gas.step(1);
            String what = "in " + w + " x " + h + " from " + Six.at(from[0], from[1]) + " by " + kind;
            expect.equal(what, gas.get(to[kind][0], to[kind][1]), 1 << kind);
            expect.equal(what + ": all there is", gas.sum(0, 0, w, h, 0), 1);
            gas.back(1);
            expect.equal(what + " and back", gas.get(from[0], from[1]), 1 << kind);
        }
    }

    /** Along a row w steps lead home; h steps up or down lead to the same row, half of h columns aside. */
    private static void wholeRounds(Expect expect) {
        int[] aside = {0, 1, -1, 0, -1, 1};
        for (int[] size : SIZES) {
            int w = size[0];
            int h = size[1];
            for (int kind = 0; kind < 6; kind++) {
                SixWayGas gas = new SixWayGas(w, h);
                gas.set(1, 2, 1 << kind);
                gas.step(kind % 3 == 0 ? w : h);
                int x = Math.floorMod(1 + aside[kind] * h / 2, w);
                expect.equal("round " + w + " x " + h + " by " + kind, gas.get(x, 2), 1 << kind);
            }
        }
    }
}

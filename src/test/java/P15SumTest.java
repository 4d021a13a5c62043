/** Promise 15: sum. */
public final class P15SumTest {
    public static void main(String[] args) {
        Expect expect = new Expect();
        expect.sentence("Promise 15", "Of all particles in the cells of a rectangle, columns x .. x + w - 1 and rows "
                + "y .. y + h - 1 (no column or row twice around): how many (field 0), or their momentum (1, 2).",
                P15SumTest::everyBits, P15SumTest::everyRectangle, P15SumTest::emptyAndFull);
        expect.sentence("Promise 15", "IndexOutOfBoundsException when (x, y), or the last cell, is none, or w or h "
                + "is not above 0;",
                P15SumTest::wrongPlaces, P15SumTest::justInside);
        expect.sentence("Promise 15", "IllegalArgumentException when field is none of these.",
                P15SumTest::wrongFields);
        expect.end();
    }

    private static int due(int bits, int field) {
        int due = 0;
        for (int kind = 0; kind < 7; kind++) {
            if ((bits & 1 << kind) != 0) {
                due += field == 0 ? 1 : field == 1 ? Six.P[kind] : Six.Q[kind];
            }
        }
        return due;
    }

    private static void everyBits(Expect expect) {
        SixWayGas gas = new SixWayGas(8, 8);
        for (int bits = 0; bits < 128; bits++) {
            gas.set(5, 2, bits);
            for (int field = 0; field < 3; field++) {
                expect.equal("one cell of " + bits, gas.sum(5, 2, 1, 1, field), due(bits, field));
            }
        }
    }

    private static void everyRectangle(Expect expect) {
        SixWayGas gas = new SixWayGas(6, 4);
        for (int y = 0; y < 4; y++) {
            for (int x = 0; x < 6; x++) {
                gas.set(x, y, (x * 37 + y * 59 + 11) % 128);
            }
        }
        for (int y = 0; y < 4; y++) {
            for (int x = 0; x < 6; x++) {
                for (int h = 1; y + h <= 4; h++) {
                    for (int w = 1; x + w <= 6; w++) {
                        oneRectangle(expect, gas, new int[] {x, y, w, h});
                    }
                }
            }
        }
    }

    private static void oneRectangle(Expect expect, SixWayGas gas, int[] r) {
        for (int field = 0; field < 3; field++) {
            int sum = 0;
            for (int y = r[1]; y < r[1] + r[3]; y++) {
                for (int x = r[0]; x < r[0] + r[2]; x++) {
                    sum += due(gas.get(x, y), field);
                }
            }
            String what = "sum(" + r[0] + ", " + r[1] + ", " + r[2] + ", " + r[3] + ", " + field + ")";
            expect.equal(what, gas.sum(r[0], r[1], r[2], r[3], field), sum);
        }
    }

    private static void emptyAndFull(Expect expect) {
        int[][] sizes = {{4, 4}, {4, 16}, {16, 4}, {16, 16}};
        for (int[] size : sizes) {
            int w = size[0];
            int h = size[1];
            SixWayGas empty = new SixWayGas(w, h);
            SixWayGas full = Gases.filled(w, h, 127);
            SixWayGas right = Gases.filled(w, h, 1);
            for (int field = 0; field <= 2; field++) {
                expect.equal("empty, field " + field, empty.sum(0, 0, w, h, field), 0);
                expect.equal("full, field " + field, full.sum(0, 0, w, h, field), field == 0 ? 7 * w * h : 0);
                expect.equal("all by 0, field " + field, right.sum(0, 0, w, h, field), field == 2 ? 0 : w * h);
            }
        }
    }

    /** Rectangles that end with the last column or row are fine, and one more column or row is not. */
    private static void justInside(Expect expect) {
        for (int i = 0; i < 8; i++) {
            int x = i;
            int inside = 8 - x;
            SixWayGas gas = Gases.filled(8, 6, 64);
            expect.equal("columns from " + x, gas.sum(x, 5, inside, 1, 0), inside);
            expect.refused("one column more from " + x, IndexOutOfBoundsException.class, Gases::busy,
                    g -> g.sum(x, 5, inside + 1, 1, 0));
        }
        for (int i = 0; i < 6; i++) {
            int y = i;
            int inside = 6 - y;
            SixWayGas gas = Gases.filled(8, 6, 64);
            expect.equal("rows from " + y, gas.sum(7, y, 1, inside, 0), inside);
            expect.refused("one row more from " + y, IndexOutOfBoundsException.class, Gases::busy,
                    g -> g.sum(7, y, 1, inside + 1, 0));
        }
    }

    private static void wrongPlaces(Expect expect) {
        int max = Integer.MAX_VALUE;
        int min = Integer.MIN_VALUE;
        int[][] places = {{0, 0, 9, 1}, {0, 0, 1, 7}, {7, 0, 2, 1}, {0, 5, 1, 2}, {0, 0, 0, 1}, {0, 0, 1, 0},
            {3, 3, -1, 1}, {3, 3, 1, -1}, {1, 0, max, 1}, {0, 1, 1, max}, {1, 1, max, max}, {0, 0, min, 1},
            {0, 0, 1, min}, {0, 0, max, 1}, {7, 5, 1, max}};
        for (int[] r : places) {
            for (int field : new int[] {0, 2, 3, -1}) {
                expect.refused("sum(" + r[0] + ", " + r[1] + ", " + r[2] + ", " + r[3] + ", " + field + ")",
                        IndexOutOfBoundsException.class, Gases::busy, g -> g.sum(r[0], r[1], r[2], r[3], field));
            }
        }
        NoCell.refusedEverywhere(expect, "sum", (g, x, y) -> g.sum(x, y, 1, 1, 0));
        NoCell.refusedEverywhere(expect, "wide sum", (g, x, y) -> g.sum(x, y, 4, 4, 7));
    }

    private static void wrongFields(Expect expect) {
        SixWayGas gas = Gases.filled(4, 4, 2);
        for (int field = 0; field <= 2; field++) {
            expect.equal("field " + field + " is fine", gas.sum(3, 3, 1, 1, field), field == 1 ? 0 : 1);
        }
        for (int field : new int[] {-1, 3, Integer.MIN_VALUE, Integer.MAX_VALUE}) {
            expect.refused("field " + field, IllegalArgumentException.class, Gases::busy, g -> g.sum(0, 0, 8, 6, field));
        }
    }
}

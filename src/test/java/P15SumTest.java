/** Promise 15: sum. */
public final class P15SumTest {
    private static final int[] P = {1, 0, -1, -1, 0, 1, 0};
    private static final int[] Q = {0, 1, 1, 0, -1, -1, 0};

    public static void main(String[] args) {
        Expect expect = new Expect();
        everyBits(expect);
        everyRectangle(expect);
        wrongCalls(expect);
        expect.end();
    }

    private static int due(int bits, int field) {
        int due = 0;
        for (int kind = 0; kind < 7; kind++) {
            if ((bits & 1 << kind) != 0) {
                due += field == 0 ? 1 : field == 1 ? P[kind] : Q[kind];
            }
        }
        return due;
    }

    private static void everyBits(Expect expect) {
        SixWayGas gas = new SixWayGas(8, 8);
        for (int bits = 0; bits < 128; bits++) {
            gas.set(5, 2, bits);
            for (int field = 0; field < 3; field++) {
                expect.equal("one cell of " + bits, gas.sum(5, 2, 1, 1, field), due(bits, field));
            }
        }
    }

    private static void everyRectangle(Expect expect) {
        SixWayGas gas = new SixWayGas(6, 4);
        for (int y = 0; y < 4; y++) {
            for (int x = 0; x < 6; x++) {
                gas.set(x, y, (x * 37 + y * 59 + 11) % 128);
            }
        }
        for (int y = 0; y < 4; y++) {
            for (int x = 0; x < 6; x++) {
                for (int h = 1; y + h <= 4; h++) {
                    for (int w = 1; x + w <= 6; w++) {
                        oneRectangle(expect, gas, new int[] {x, y, w, h});
                    }
                }
            }
        }
    }

    private static void oneRectangle(Expect expect, SixWayGas gas, int[] r) {
        for (int field = 0; field < 3; field++) {
            int sum = 0;
            for (int y = r[1]; y < r[1] + r[3]; y++) {
                for (int x = r[0]; x < r[0] + r[2]; x++) {
                    sum += due(gas.get(x, y), field);
                }
            }
            String what = "sum(" + r[0] + ", " + r[1] + ", " + r[2] + ", " + r[3] + ", " + field + ")";
            expect.equal(what, gas.sum(r[0], r[1], r[2], r[3], field), sum);
        }
    }

    private static void wrongCalls(Expect expect) {
        int max = Integer.MAX_VALUE;
        int min = Integer.MIN_VALUE;
        int[][] places = {{0, 0, 9, 1}, {0, 0, 1, 7}, {7, 0, 2, 1}, {0, 5, 1, 2}, {0, 0, 0, 1}, {0, 0, 1, 0},
            {3, 3, -1, 1}, {3, 3, 1, -1}, {1, 0, max, 1}, {0, 1, 1, max}, {1, 1, max, max}, {0, 0, min, 1},
            {0, 0, 1, min}, {0, 0, max, 1}, {7, 5, 1, max}};
        for (int[] r : places) {
            for (int field : new int[] {0, 2, 3, -1}) {
                expect.refused("sum(" + r[0] + ", " + r[1] + ", " + r[2] + ", " + r[3] + ", " + field + ")",
                        IndexOutOfBoundsException.class, Gases::busy, g -> g.sum(r[0], r[1], r[2], r[3], field));
            }
        }
        for (int field : new int[] {-1, 3, min, max}) {
            expect.refused("field " + field, IllegalArgumentException.class, Gases::busy, g -> g.sum(0, 0, 8, 6, field));
        }
        NoCell.refusedEverywhere(expect, "sum", (g, x, y) -> g.sum(x, y, 1, 1, 0));
        NoCell.refusedEverywhere(expect, "wide sum", (g, x, y) -> g.sum(x, y, 4, 4, 7));
    }
}

/** Terms: taking a step back, at its boundaries. */
public final class TermsBackTest {
    private static final int[][] SIZES = {{4, 4}, {4, 16}, {16, 4}, {8, 8}};

    public static void main(String[] args) {
        Expect expect = new Expect();
        expect.sentence("Terms", "TO TAKE A STEP BACK is to make everything as it was before it, if it was made with "
                + "the walls that there are now: time becomes one less;",
                TermsBackTest::everythingAsItWas, TermsBackTest::otherWalls, TermsBackTest::time);
        expect.sentence("Terms", "walls as in EDGES;",
                TermsBackTest::onlyWalls);
        expect.sentence("Terms", "each particle goes to the cell from which flight would bring it there;",
                TermsBackTest::flightBack);
        expect.sentence("Terms", "and bits that are no wall's become those which the rule would make what they are.",
                TermsBackTest::meetingBack);
        expect.sentence("Terms", "The walls' book becomes what it was.",
                TermsBackTest::bookBack);
        expect.end();
    }

    /** Empty, full and mixed grids, without walls, with walls in corners, and with nothing but walls. */
    private static void everythingAsItWas(Expect expect) {
        for (int[] size : SIZES) {
            for (int walls = 0; walls <= 2; walls++) {
                for (int bits : new int[] {-1, 0, 9, 21, 34, 45, 63, 64, 65, 127}) {
                    for (int n : new int[] {0, 1, 2, 64}) {
                        thereAndBack(expect, size, walls, bits, n);
                    }
                }
            }
        }
    }

    private static SixWayGas walled(int[] size, int walls, int bits) {
        int w = size[0];
        int h = size[1];
        SixWayGas gas = new SixWayGas(w, h);
        for (int i = 0; i < w * h; i++) {
            gas.set(i % w, i / w, bits >= 0 ? bits : i * 37 % 128);
            boolean corner = (i % w == 0 || i % w == w - 1) && (i / w == 0 || i / w == h - 1);
            gas.wall(i % w, i / w, walls == 2 || walls == 1 && corner);
        }
        for (int kind = 0; kind <= 6; kind += 2) {
            if ((gas.get(w - 1, h - 1) >> kind & 1) != 0) {
                gas.mark(w - 1, h - 1, kind);
            }
        }
        return gas;
    }

    private static void thereAndBack(Expect expect, int[] size, int walls, int bits, int n) {
        SixWayGas gas = walled(size, walls, bits);
        gas.step(n);
        String what = size[0] + " x " + size[1] + ", walls " + walls + ", bits " + bits + ", " + n + " steps";
        expect.equal(what + ": time", gas.back(n), 0);
        expect.same(what, State.of(gas), State.of(walled(size, walls, bits)));
        // And the other way round: before the time at which it began.
        gas = walled(size, walls, bits);
        gas.back(n);
        expect.equal(what + " back: time", gas.step(n), 0);
        expect.same(what + " back", State.of(gas), State.of(walled(size, walls, bits)));
    }

    /** A wall that came behind the step turns the particle as if it had been there; one that is gone does not. */
    private static void otherWalls(Expect expect) {
        SixWayGas gas = new SixWayGas(8, 8);
        gas.set(2, 3, 1);
        gas.step(1);
        gas.wall(3, 3, true);
        gas.back(1);
        expect.equal("it comes from the other side of the new wall", gas.get(4, 3), 8);
        expect.equal("p that the new wall would have given less", gas.book(0, 1), -2);
        gas = new SixWayGas(8, 8);
        gas.set(2, 3, 1);
        gas.wall(3, 3, true);
        gas.step(1);
        gas.wall(3, 3, false);
        gas.back(1);
        expect.equal("it flies on backwards where the wall was", gas.get(4, 3), 8);
        expect.equal("p that the wall gave stays", gas.book(0, 1), -2);
    }

    private static void time(Expect expect) {
        SixWayGas gas = new SixWayGas(4, 4);
        gas.step(2);
        for (int due = 1; due >= -3; due--) {
            expect.equal("one less", gas.back(1), due);
        }
    }

    /** Turned and flown home: what flew out of a wall came into it as the opposite kind. */
    private static void onlyWalls(Expect expect) {
        for (int bits = 0; bits <= 127; bits++) {
            SixWayGas gas = Gases.filled(4, 4, bits);
            Gases.putEdges(gas, 4, 4, 1);
            gas.back(1);
            for (int i = 0; i < 16; i++) {
                expect.equal("bits " + bits + " in every wall", gas.get(i % 4, i / 4), Six.bounced(bits));
            }
        }
    }

    private static void flightBack(Expect expect) {
        for (int[] size : SIZES) {
            int w = size[0];
            int h = size[1];
            int[][] cells = {{0, 0}, {w - 1, 0}, {0, h - 1}, {w - 1, h - 1}, {1, 1}, {2, 2}};
            for (int[] cell : cells) {
                for (int kind = 0; kind <= 6; kind++) {
                    SixWayGas gas = new SixWayGas(w, h);
                    gas.set(cell[0], cell[1], 1 << kind);
                    gas.back(1);
                    int[] from = kind < 6 ? Six.whence(w, h, cell, kind) : cell;
                    String what = w + " x " + h + " into " + Six.at(cell[0], cell[1]) + " by " + kind;
                    expect.equal(what, gas.get(from[0], from[1]), 1 << kind);
                    expect.equal(what + ": in all", gas.sum(0, 0, w, h, 0), 1);
                }
            }
        }
    }

    /** What flies off from a free cell, or a wall, with these bits, and is taken back: at both senses. */
    private static void meetingBack(Expect expect) {
        for (int bits = 0; bits <= 127; bits++) {
            for (int time = -1; time <= 1; time++) {
                for (int walls = 0; walls < 2; walls++) {
                    SixWayGas gas = new SixWayGas(8, 8);
                    // The step that is taken back is at this time.
                    int now = time < 0 ? gas.step(0) : gas.step(time + 1);
                    gas.wall(3, 3, walls == 1);
                    int sense = Math.floorMod(6 + now - 1, 2);
                    int turned = walls == 1 ? bits : gas.rule(bits, sense);
                    for (int kind = 0; kind < 6; kind++) {
                        int[] to = Six.neighbour(8, 8, new int[] {3, 3}, kind);
                        gas.set(to[0], to[1], turned & 1 << kind);
                    }
                    gas.set(3, 3, turned & 64);
                    gas.back(1);
                    String what = "bits " + bits + " at " + (now - 1) + (walls == 1 ? " in a wall" : "");
                    expect.equal(what, gas.get(3, 3), bits);
                    expect.equal(what + ": in all", gas.sum(0, 0, 8, 8, 0), Integer.bitCount(bits));
                }
            }
        }
    }

    private static void bookBack(Expect expect) {
        SixWayGas gas = walled(new int[] {4, 4}, 1, -1);
        int[][] books = new int[30][3];
        for (int i = 0; i < 30; i++) {
            for (int field = 0; field < 3; field++) {
                books[i][field] = gas.book(0, field);
            }
            gas.step(1);
        }
        boolean changed = false;
        for (int i = 29; i >= 0; i--) {
            gas.back(1);
            for (int field = 0; field < 3; field++) {
                expect.equal("book at " + i, gas.book(0, field), books[i][field]);
                changed |= books[i][field] != 0;
            }
        }
        expect.equal("the walls gave something", changed, true);
    }
}

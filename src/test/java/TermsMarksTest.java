/** Terms: marks, at their boundaries. */
public final class TermsMarksTest {
    public static void main(String[] args) {
        Expect expect = new Expect();
        expect.sentence("Terms", "MARKS are 0, 1, .. , at most four; a mark is on a particle, or LOST.",
                TermsMarksTest::atMostFour);
        expect.sentence("Terms", "It stays with the particle by flight, edges and exchange.",
                TermsMarksTest::flight, TermsMarksTest::edges, TermsMarksTest::exchange);
        expect.sentence("Terms", "In meeting, if bits change: the particles before and after (as many) are taken in "
                + "order of their kinds, and the mark on the k-th one before is on the k-th one after (the other way "
                + "round when a step is taken back).",
                TermsMarksTest::meeting);
        expect.sentence("Terms", "When a sink, or set(), takes its particle's place (for set: the cell has other or "
                + "the same bits), it is lost.",
                TermsMarksTest::lostBySink, TermsMarksTest::lostBySet);
        expect.end();
    }

    private static void atMostFour(Expect expect) {
        SixWayGas gas = new SixWayGas(16, 16);
        gas.set(15, 15, 127);
        for (int mark = 0; mark <= 3; mark++) {
            expect.equal("mark " + mark, gas.mark(15, 15, 6 - mark), mark);
        }
        for (int mark = 0; mark <= 3; mark++) {
            expect.equal("mark " + mark + " is on", gas.marked(mark), Six.place(15, 15, 6 - mark));
        }
        gas.set(15, 15, 127);
        for (int mark = 0; mark <= 3; mark++) {
            expect.equal("mark " + mark + " is lost", gas.marked(mark), SixWayGas.NONE);
        }
        expect.refused("a fifth mark", UnsupportedOperationException.class, TermsMarksTest::four, g -> g.mark(3, 3, 5));
        expect.refused("asking for a fifth", IndexOutOfBoundsException.class, TermsMarksTest::four, g -> g.marked(4));
    }

    private static SixWayGas four() {
        SixWayGas gas = new SixWayGas(4, 4);
        gas.set(3, 3, 127);
        for (int kind = 0; kind <= 3; kind++) {
            gas.mark(3, 3, kind);
        }
        return gas;
    }

    private static void flight(Expect expect) {
        int[][] cells = {{0, 0}, {15, 0}, {0, 15}, {15, 15}};
        for (int[] cell : cells) {
            for (int kind = 0; kind <= 6; kind++) {
                SixWayGas gas = new SixWayGas(16, 16);
                gas.set(cell[0], cell[1], 1 << kind);
                gas.mark(cell[0], cell[1], kind);
                gas.step(1);
                int[] to = kind < 6 ? Six.neighbour(16, 16, cell, kind) : cell;
                String what = Six.at(cell[0], cell[1]) + " by " + kind;
                expect.equal(what, gas.marked(0), Six.place(to[0], to[1], kind));
                gas.back(1);
                expect.equal(what + " and back", gas.marked(0), Six.place(cell[0], cell[1], kind));
                gas.back(1);
                int[] from = kind < 6 ? Six.whence(16, 16, cell, kind) : cell;
                expect.equal(what + " and back again", gas.marked(0), Six.place(from[0], from[1], kind));
            }
        }
    }

    private static void edges(Expect expect) {
        for (int sort = 1; sort <= 4; sort++) {
            for (int kind = 0; kind <= 6; kind++) {
                if (sort != 3) {
                    SixWayGas gas = new SixWayGas(8, 8);
                    Gases.putEdge(gas, 7, 7, sort);
                    int[] from = kind < 6 ? Six.whence(8, 8, new int[] {7, 7}, kind) : new int[] {7, 7};
                    gas.set(from[0], from[1], 1 << kind);
                    gas.mark(from[0], from[1], kind);
                    gas.step(1);
                    int due = sort == 2 || kind == 6 ? kind : (kind + 3) % 6;
                    expect.equal("edge " + sort + ", kind " + kind, gas.marked(0), Six.place(7, 7, due));
                }
            }
        }
        SixWayGas full = new SixWayGas(4, 4);
        full.source(0, 0, 256);
        full.set(0, 0, 64);
        full.mark(0, 0, 6);
        full.step(2);
        expect.equal("a source gives none in a marked one's place", full.marked(0), Six.place(0, 0, 6));
    }

    /** One mark each in the body, ahead of it, and in the cell that changes by the order of rows alone. */
    private static void exchange(Expect expect) {
        SixWayGas gas = new SixWayGas(8, 8);
        gas.mass(2);
        gas.body(7, 7, true);
        gas.set(6, 7, 1);
        gas.set(7, 7, 64);
        gas.set(0, 7, 64);
        gas.set(0, 0, 64);
        gas.mark(6, 7, 0);
        gas.mark(7, 7, 6);
        gas.mark(0, 7, 6);
        gas.mark(0, 0, 6);
        gas.step(1);
        expect.equal("bounced, and around the grid with the body", gas.marked(0), Six.place(0, 7, 3));
        expect.equal("resting in the body, with it", gas.marked(1), Six.place(0, 7, 6));
        expect.equal("ahead before, behind now", gas.marked(2), Six.place(7, 7, 6));
        expect.equal("elsewhere", gas.marked(3), Six.place(0, 0, 6));
    }

    private static int nth(int bits, int n) {
        int left = n;
        for (int kind = 0; kind <= 6; kind++) {
            if ((bits >> kind & 1) != 0 && left-- == 0) {
                return kind;
            }
        }
        throw new AssertionError("no such particle");
    }

    private static void meeting(Expect expect) {
        for (int time = 0; time <= 1; time++) {
            for (int bits = 1; bits <= 127; bits++) {
                for (int k = 0; k < Integer.bitCount(bits); k++) {
                    int[] cell = {3, 3};
                    SixWayGas gas = new SixWayGas(4, 4);
                    gas.step(time);
                    gas.set(3, 3, bits);
                    int before = nth(bits, k);
                    gas.mark(3, 3, before);
                    int after = nth(gas.rule(bits, time), k);
                    gas.step(1);
                    int[] to = after < 6 ? Six.neighbour(4, 4, cell, after) : cell;
                    String what = "bits " + bits + ", kind " + before + " at " + time;
                    expect.equal(what, gas.marked(0), Six.place(to[0], to[1], after));
                    gas.back(1);
                    expect.equal(what + " and back", gas.marked(0), Six.place(3, 3, before));
                }
            }
        }
        inOrder(expect);
    }

    /** Where turning each kind by one would lead elsewhere: the first stays the first. */
    private static void inOrder(Expect expect) {
        SixWayGas gas = new SixWayGas(8, 8);
        gas.set(2, 2, 4 | 32);
        gas.mark(2, 2, 2);
        gas.mark(2, 2, 5);
        gas.step(1);
        expect.equal("2 of 2 and 5 is 0 of 0 and 3", gas.marked(0), Six.place(3, 2, 0));
        expect.equal("5 of 2 and 5 is 3 of 0 and 3", gas.marked(1), Six.place(1, 2, 3));
        gas = new SixWayGas(8, 8);
        gas.set(2, 2, 1 | 64);
        gas.mark(2, 2, 0);
        gas.mark(2, 2, 6);
        gas.step(1);
        expect.equal("0 of 0 and 6 is 1 of 1 and 5", gas.marked(0), Six.place(2, 1, 1));
        expect.equal("6 of 0 and 6 is 5 of 1 and 5", gas.marked(1), Six.place(2, 3, 5));
        gas = new SixWayGas(8, 8);
        gas.wall(2, 2, true);
        gas.set(2, 2, 4 | 32);
        gas.mark(2, 2, 2);
        gas.step(1);
        expect.equal("bits that don't change, in a wall", gas.marked(0), Six.place(1, 1, 2));
    }

    private static void lostBySink(Expect expect) {
        for (int kind = 0; kind <= 6; kind++) {
            for (int at = 0; at <= 3; at += 3) {
                int[] cell = {at, at};
                SixWayGas gas = new SixWayGas(4, 4);
                gas.sink(at, at, true);
                int[] from = kind < 6 ? Six.whence(4, 4, cell, kind) : cell;
                gas.set(from[0], from[1], 1 << kind);
                gas.mark(from[0], from[1], kind);
                gas.step(1);
                expect.equal("kind " + kind + " in a sink in " + Six.at(at, at), gas.marked(0), SixWayGas.NONE);
                gas.sink(at, at, false);
                gas.back(1);
                expect.equal("it stays lost", gas.marked(0), SixWayGas.NONE);
            }
        }
        SixWayGas beside = new SixWayGas(4, 4);
        beside.set(0, 0, 64);
        beside.mark(0, 0, 6);
        beside.sink(0, 0, true);
        expect.equal("a sink takes none before the step", beside.marked(0), Six.place(0, 0, 6));
    }

    private static void lostBySet(Expect expect) {
        for (int bits : new int[] {0, 1, 2, 126, 127}) {
            SixWayGas gas = new SixWayGas(4, 4);
            gas.set(0, 0, 1);
            gas.set(3, 3, 1);
            gas.set(3, 2, 1);
            gas.mark(0, 0, 0);
            gas.mark(3, 3, 0);
            gas.mark(3, 2, 0);
            gas.set(0, 0, bits);
            gas.set(3, 3, bits);
            expect.equal("set " + bits + " in the first cell", gas.marked(0), SixWayGas.NONE);
            expect.equal("set " + bits + " in the last cell", gas.marked(1), SixWayGas.NONE);
            expect.equal("set " + bits + " in another cell", gas.marked(2), Six.place(3, 2, 0));
        }
        for (int bits : new int[] {-1, 128}) {
            expect.refused("set " + bits, IllegalArgumentException.class, TermsMarksTest::four, g -> g.set(3, 3, bits));
        }
    }
}

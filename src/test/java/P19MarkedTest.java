/** Promise 19: marked, and how a mark goes with its particle. */
public final class P19MarkedTest {
    public static void main(String[] args) {
        Expect expect = new Expect();
        expect.sentence("Promise 19", "Where a mark's particle is: 128 * y + 8 * x + its kind; NONE when it is lost.",
                P19MarkedTest::firstAndLastPlace, P19MarkedTest::flight, P19MarkedTest::everyMeeting,
                P19MarkedTest::edges);
        expect.sentence("Promise 19", "IndexOutOfBoundsException when there is no such mark.",
                P19MarkedTest::wrongCalls);
        expect.end();
    }

    private static void firstAndLastPlace(Expect expect) {
        SixWayGas gas = new SixWayGas(16, 16);
        int[][] places = {{0, 0, 0, 0}, {15, 0, 5, 125}, {0, 15, 1, 1921}, {15, 15, 6, 2046}};
        for (int[] place : places) {
            gas.set(place[0], place[1], 127);
            gas.mark(place[0], place[1], place[2]);
        }
        for (int mark = 0; mark <= 3; mark++) {
            expect.equal("mark " + mark, gas.marked(mark), places[mark][3]);
        }
        gas.set(0, 0, 127);
        expect.equal("lost is NONE, not 0", gas.marked(0), -1);
    }

    private static void flight(Expect expect) {
        SixWayGas gas = new SixWayGas(16, 16);
        gas.set(14, 14, 1 | 64 | 2 | 4);
        gas.mark(14, 14, 6);
        gas.mark(14, 14, 0);
        gas.step(1);
        expect.equal("resting", gas.marked(0), 14 * 128 + 14 * 8 + 6);
        expect.equal("flying", gas.marked(1), 14 * 128 + 15 * 8);
        gas.step(1);
        expect.equal("round the grid", gas.marked(1), 14 * 128);
    }

    /** The k-th particle before is the k-th after, for all bits; (2, 2) has the sense of the time. */
    private static void everyMeeting(Expect expect) {
        for (int sense = 0; sense < 2; sense++) {
            for (int bits = 1; bits < 128; bits++) {
                for (int kind = 0; kind < 7; kind++) {
                    if ((bits & 1 << kind) != 0) {
                        oneMeeting(expect, sense, bits, kind);
                    }
                }
            }
        }
    }

    private static void oneMeeting(Expect expect, int sense, int bits, int kind) {
        int[][] to = {{3, 2}, {2, 1}, {1, 1}, {1, 2}, {1, 3}, {2, 3}, {2, 2}};
        SixWayGas gas = new SixWayGas(8, 8);
        gas.step(sense);
        gas.set(2, 2, bits);
        gas.mark(2, 2, kind);
        int after = gas.rule(bits, sense);
        int due = kind;
        if (after != bits) {
            int k = 0;
            for (int lower = 0; lower < kind; lower++) {
                k += bits >> lower & 1;
            }
            due = 0;
            while ((after >> due & 1) == 0 || k-- > 0) {
                due++;
            }
        }
        gas.step(1);
        String what = "bits " + bits + ", sense " + sense + ", kind " + kind;
        expect.equal(what, gas.marked(0), 128 * to[due][1] + 8 * to[due][0] + due);
        gas.back(1);
        expect.equal(what + " and back", gas.marked(0), 128 * 2 + 8 * 2 + kind);
    }

    private static void edges(Expect expect) {
        SixWayGas gas = new SixWayGas(8, 8);
        gas.wall(4, 2, true);
        gas.sink(4, 4, true);
        gas.source(4, 6, 256);
        gas.body(4, 0, true);
        for (int i = 0; i < 4; i++) {
            gas.set(3, 2 * i, 1);
            gas.mark(3, 2 * i, 0);
        }
        gas.step(1);
        expect.equal("body", gas.marked(0), 4 * 8 + 3);
        expect.equal("wall", gas.marked(1), 2 * 128 + 4 * 8 + 3);
        expect.equal("sink", gas.marked(2), SixWayGas.NONE);
        expect.equal("source", gas.marked(3), 6 * 128 + 4 * 8);
        gas.step(1);
        expect.equal("from the body", gas.marked(0), 3 * 8 + 3);
        expect.equal("from the wall", gas.marked(1), 2 * 128 + 3 * 8 + 3);
        expect.equal("from the sink never", gas.marked(2), SixWayGas.NONE);
        SixWayGas resting = new SixWayGas(8, 8);
        resting.wall(4, 2, true);
        resting.set(4, 2, 64);
        resting.mark(4, 2, 6);
        resting.step(2);
        expect.equal("resting in a wall", resting.marked(0), 2 * 128 + 4 * 8 + 6);
    }

    private static void wrongCalls(Expect expect) {
        for (int mark : new int[] {-1, 3, 4, Integer.MIN_VALUE, Integer.MAX_VALUE}) {
            // The busy gas has the marks 0, 1 and 2.
            expect.refused("marked " + mark, IndexOutOfBoundsException.class, Gases::busy, g -> g.marked(mark));
        }
        SixWayGas gas = new SixWayGas(4, 4);
        gas.set(0, 0, 127);
        for (int mark = 0; mark <= 3; mark++) {
            gas.mark(0, 0, mark);
            expect.equal("the newest mark is fine", gas.marked(mark), mark);
            int count = mark + 1;
            expect.refused("one behind the last of " + count, IndexOutOfBoundsException.class, () -> withMarks(count),
                    g -> g.marked(count));
        }
        for (int mark : new int[] {-1, 0, 1}) {
            expect.refused("no marks, " + mark, IndexOutOfBoundsException.class, () -> new SixWayGas(4, 4),
                    g -> g.marked(mark));
        }
    }

    private static SixWayGas withMarks(int count) {
        SixWayGas gas = new SixWayGas(4, 4);
        gas.set(0, 0, 127);
        for (int kind = 0; kind < count; kind++) {
            gas.mark(0, 0, kind);
        }
        return gas;
    }
}

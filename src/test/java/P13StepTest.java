/** Promise 13: step. */
public final class P13StepTest {
    public static void main(String[] args) {
        Expect expect = new Expect();
        expect.sentence("Promise 13", "Makes n steps: the time then.",
                P13StepTest::time, P13StepTest::flight, P13StepTest::senses, P13StepTest::order, P13StepTest::balance);
        expect.sentence("Promise 13", "IllegalArgumentException when n is not 0 .. 64.",
                P13StepTest::wrongCalls);
        expect.end();
    }

    private static void wrongCalls(Expect expect) {
        expect.equal("0 is fine", new SixWayGas(4, 4).step(0), 0);
        expect.equal("64 is fine", new SixWayGas(4, 4).step(64), 64);
        for (int n : new int[] {-1, 65, Integer.MIN_VALUE, Integer.MAX_VALUE}) {
            expect.refused("step " + n, IllegalArgumentException.class, Gases::busy, g -> g.step(n));
        }
    }

    private static void time(Expect expect) {
        SixWayGas gas = new SixWayGas(8, 8);
        expect.equal("no steps", gas.step(0), 0);
        expect.equal("one", gas.step(1), 1);
        expect.equal("64 more", gas.step(64), 65);
        expect.equal("none", gas.step(0), 65);
        SixWayGas still = Gases.busy();
        still.step(0);
        expect.same("no steps change nothing", State.of(still), State.of(Gases.busy()));
        SixWayGas once = Gases.busy();
        SixWayGas often = Gases.busy();
        once.step(37);
        for (int i = 0; i < 37; i++) {
            often.step(1);
        }
        expect.same("37 steps at once and one by one", State.of(once), State.of(often));
    }

    private static void flight(Expect expect) {
        int[][] from = {{2, 2}, {2, 3}, {0, 0}, {7, 5}, {0, 5}, {7, 0}};
        int[][][] to = {
            {{3, 2}, {2, 1}, {1, 1}, {1, 2}, {1, 3}, {2, 3}},
            {{3, 3}, {3, 2}, {2, 2}, {1, 3}, {2, 4}, {3, 4}},
            {{1, 0}, {0, 5}, {7, 5}, {7, 0}, {7, 1}, {0, 1}},
            {{0, 5}, {0, 4}, {7, 4}, {6, 5}, {7, 0}, {0, 0}},
            {{1, 5}, {1, 4}, {0, 4}, {7, 5}, {0, 0}, {1, 0}},
            {{0, 0}, {7, 5}, {6, 5}, {6, 0}, {6, 1}, {7, 1}}};
        for (int i = 0; i < from.length; i++) {
            for (int kind = 0; kind < 6; kind++) {
                SixWayGas gas = new SixWayGas(8, 6);
                gas.set(from[i][0], from[i][1], 1 << kind);
                gas.step(1);
                String what = "from (" + from[i][0] + ", " + from[i][1] + ") by " + kind;
                expect.equal(what, gas.get(to[i][kind][0], to[i][kind][1]), 1 << kind);
                expect.equal(what + ", no other", gas.sum(0, 0, 8, 6, 0), 1);
            }
            SixWayGas gas = new SixWayGas(8, 6);
            gas.set(from[i][0], from[i][1], 64);
            gas.step(3);
            expect.equal("the resting one stays", gas.get(from[i][0], from[i][1]), 64);
        }
    }

    private static void senses(Expect expect) {
        for (int time = 0; time < 2; time++) {
            for (int y = 2; y < 4; y++) {
                for (int x = 2; x < 4; x++) {
                    SixWayGas gas = new SixWayGas(8, 8);
                    gas.step(time);
                    gas.set(x, y, 9);
                    gas.mark(x, y, 0);
                    gas.step(1);
                    int due = (x + y + time) % 2 == 0 ? 1 : 2;
                    expect.equal("sense in (" + x + ", " + y + ") at " + time, gas.marked(0) % 8, due);
                }
            }
        }
        SixWayGas gas = new SixWayGas(8, 8);
        gas.back(1);
        gas.set(2, 2, 9);
        gas.mark(2, 2, 0);
        gas.step(1);
        expect.equal("sense at time -1", gas.marked(0) % 8, 2);
    }

    /** Meeting comes before flight, and flight before edges. */
    private static void order(Expect expect) {
        SixWayGas gas = new SixWayGas(8, 8);
        gas.set(1, 2, 1);
        gas.set(3, 2, 8);
        gas.step(1);
        expect.equal("they came together and have not met yet", gas.get(2, 2), 9);
        gas.source(5, 5, 256);
        gas.step(1);
        expect.equal("given behind meeting and flight", gas.get(5, 5), 127);
        expect.equal("met by now", gas.get(2, 2), 0);
    }

    /** What is there is what was put in and what edges gave, at every step. */
    private static void balance(Expect expect) {
        SixWayGas gas = Gases.busy();
        int[] put = new int[3];
        for (int field = 0; field < 3; field++) {
            put[field] = gas.sum(0, 0, 8, 6, field) - given(gas, field);
        }
        for (int i = 0; i < 100; i++) {
            gas.step(1);
            for (int field = 0; field < 3; field++) {
                expect.equal("balance at " + i, gas.sum(0, 0, 8, 6, field), put[field] + given(gas, field));
            }
        }
        expect.equal("the body moved", gas.account(2) > 0, true);
    }

    private static int given(SixWayGas gas, int field) {
        return gas.book(0, field) + gas.book(1, field) + gas.book(2, field) + gas.book(3, field);
    }
}

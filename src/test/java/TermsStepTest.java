/** Terms: a step's meeting, flight and order, at their boundaries; its edges have a test of their own. */
public final class TermsStepTest {
    public static void main(String[] args) {
        Expect expect = new Expect();
        expect.sentence("Terms", "A STEP is, one behind the other:",
                TermsStepTest::order);
        expect.sentence("Terms", "MEETING: the bits of each cell that is neither wall nor of the body become what "
                + "the rule says, the sense being the lowest bit of x + y + time.",
                TermsStepTest::senses, TermsStepTest::whoMeets);
        expect.sentence("Terms", "FLIGHT: each particle of a kind 0 .. 5 goes to the neighbour by its kind, all at "
                + "once.",
                TermsStepTest::crossing, TermsStepTest::wholeRows, TermsStepTest::emptyAndFull);
        expect.sentence("Terms", "THE BODY'S MOVE, and at last time becomes one more.",
                TermsStepTest::moveAndTime);
        expect.end();
    }

    private static void order(Expect expect) {
        SixWayGas gas = new SixWayGas(8, 8);
        gas.set(1, 2, 1);
        gas.set(3, 2, 8);
        gas.step(1);
        expect.equal("flight behind meeting: together, not yet met", gas.get(2, 2), 9);
        gas = new SixWayGas(8, 8);
        gas.sink(3, 3, true);
        gas.set(3, 3, 1);
        gas.set(2, 3, 1);
        gas.step(1);
        expect.equal("edges behind flight: one flew out of the sink", gas.get(4, 3), 1);
        expect.equal("edges behind flight: one flew into it", gas.book(2, 0), -1);
        gas = new SixWayGas(8, 8);
        gas.mass(2);
        gas.body(3, 3, true);
        gas.set(2, 3, 1);
        gas.step(1);
        expect.equal("the move behind the edges: by the push of this step", gas.edge(4, 3), 4);
        expect.equal("the bounced one with it", gas.get(4, 3), 8);
    }

    private static SixWayGas atTime(int time) {
        SixWayGas gas = new SixWayGas(4, 4);
        for (int made = 0; made < Math.abs(time); made++) {
            if (time > 0) {
                gas.step(1);
            } else {
                gas.back(1);
            }
        }
        return gas;
    }

    /** A pair 0 and 3 becomes 1 and 4 by sense 0, 5 and 2 by sense 1. */
    private static void senses(Expect expect) {
        for (int time : new int[] {-65, -64, -2, -1, 0, 1, 2, 63, 64, 65}) {
            for (int y = 0; y < 4; y++) {
                for (int x = 0; x < 4; x++) {
                    SixWayGas gas = atTime(time);
                    gas.set(x, y, 9);
                    gas.step(1);
                    boolean odd = (x + y + time) % 2 != 0;
                    int[] upper = Six.neighbour(4, 4, new int[] {x, y}, odd ? 2 : 1);
                    int[] lower = Six.neighbour(4, 4, new int[] {x, y}, odd ? 5 : 4);
                    String what = Six.at(x, y) + " at " + time;
                    expect.equal(what + ": up", gas.get(upper[0], upper[1]), odd ? 4 : 2);
                    expect.equal(what + ": down", gas.get(lower[0], lower[1]), odd ? 32 : 16);
                }
            }
        }
    }

    private static void whoMeets(Expect expect) {
        for (int sort = 0; sort <= 4; sort++) {
            for (int corner = 0; corner < 2; corner++) {
                int at = corner * 3;
                SixWayGas gas = new SixWayGas(4, 4);
                gas.set(at, at, 65);
                if (sort > 0) {
                    Gases.putEdge(gas, at, at, sort);
                }
                gas.step(1);
                boolean meets = sort != 1 && sort != 4;
                int[] straight = Six.neighbour(4, 4, new int[] {at, at}, 0);
                int[] aside = Six.neighbour(4, 4, new int[] {at, at}, 5);
                String what = "edge " + sort + " in " + Six.at(at, at);
                expect.equal(what + ": unmet", gas.get(straight[0], straight[1]), meets ? 0 : 1);
                expect.equal(what + ": met", gas.get(aside[0], aside[1]), meets ? 32 : 0);
            }
        }
    }

    /** Neighbours that fly towards each other change places, in the grid and around it. */
    private static void crossing(Expect expect) {
        int[][] cells = {{0, 0}, {3, 0}, {0, 3}, {3, 3}, {1, 1}, {2, 2}};
        for (int[] one : cells) {
            for (int kind = 0; kind < 6; kind++) {
                int[] other = Six.neighbour(4, 4, one, kind);
                SixWayGas gas = new SixWayGas(4, 4);
                gas.set(one[0], one[1], 1 << kind);
                gas.set(other[0], other[1], 1 << (kind + 3) % 6);
                gas.step(1);
                String what = Six.at(one[0], one[1]) + " by " + kind;
                expect.equal(what + ": here", gas.get(one[0], one[1]), 1 << (kind + 3) % 6);
                expect.equal(what + ": there", gas.get(other[0], other[1]), 1 << kind);
                expect.equal(what + ": in all", gas.sum(0, 0, 4, 4, 0), 2);
            }
        }
    }

    /** A row of particles that follow one another, with one gap: the gap goes one cell on, too. */
    private static void wholeRows(Expect expect) {
        for (int y : new int[] {0, 15}) {
            for (int gap = 0; gap < 16; gap++) {
                SixWayGas gas = new SixWayGas(16, 16);
                for (int x = 0; x < 16; x++) {
                    gas.set(x, y, x == gap ? 0 : 1);
                }
                gas.step(1);
                for (int x = 0; x < 16; x++) {
                    expect.equal("gap in " + Six.at(gap, y) + ", " + Six.at(x, y), gas.get(x, y), x == (gap + 1) % 16 ? 0 : 1);
                }
            }
        }
    }

    private static void emptyAndFull(Expect expect) {
        int[][] sizes = {{4, 4}, {16, 16}, {4, 16}, {16, 4}};
        for (int[] size : sizes) {
            // These bits stay in meeting, so that a grid full of them flies into itself.
            for (int bits : new int[] {0, 1, 2, 4, 8, 16, 32, 64, 63, 127}) {
                SixWayGas gas = Gases.filled(size[0], size[1], bits);
                int before = gas.check();
                gas.step(1);
                expect.equal("every cell with " + bits, gas.check(), before);
                expect.equal("the first with " + bits, gas.get(0, 0), bits);
                expect.equal("the last with " + bits, gas.get(size[0] - 1, size[1] - 1), bits);
                gas.step(63);
                expect.equal("every cell with " + bits + ", 64 steps", gas.check(), before);
            }
        }
    }

    private static void moveAndTime(Expect expect) {
        SixWayGas gas = new SixWayGas(8, 8);
        gas.mass(1);
        gas.body(0, 0, true);
        gas.set(7, 0, 1);
        // The account is (2, 0) behind the first step's edges: it moves by 0 in this step and in the next one.
        for (int time = 1; time <= 3; time++) {
            expect.equal("time behind the step", gas.step(1), time);
            expect.equal("moves by then", gas.account(2), Math.min(time, 2));
            expect.equal("its place", gas.edge(Math.min(time, 2), 0), 4);
        }
        SixWayGas pair = new SixWayGas(8, 8);
        pair.set(1, 2, 1);
        pair.set(3, 2, 8);
        pair.step(2);
        expect.equal("the second step is at 1: in (2, 2) they become 2", pair.get(1, 1), 4);
        expect.equal("and 5", pair.get(2, 3), 32);
    }
}

/** Promise 8: body, and how it bounces particles and moves. */
public final class P08BodyTest {
    public static void main(String[] args) {
        Expect expect = new Expect();
        EdgeSwitch edge = new EdgeSwitch("body", 4, SixWayGas::body);
        expect.sentence("Promise 8", "A cell is one of the body, or not any more: whether that is new.",
                edge::onAndOff, edge::refusedForNoCell, P08BodyTest::bouncing, P08BodyTest::moves,
                P08BodyTest::firstDirection, P08BodyTest::exchanges, P08BodyTest::exchangesRowByRow,
                P08BodyTest::stopped, P08BodyTest::ring, P08BodyTest::noCells, P08BodyTest::everyPush,
                P08BodyTest::firstCell, P08BodyTest::fourMarks);
        expect.sentence("Promise 8", "IllegalStateException when it is a wall, a source or a sink.",
                edge::refusedOnOtherEdges);
        expect.end();
    }

    private static void bouncing(Expect expect) {
        SixWayGas gas = new SixWayGas(8, 8);
        gas.body(3, 3, true);
        gas.set(3, 3, 64 | 9);
        gas.set(2, 3, 1);
        gas.mark(3, 3, 6);
        gas.mark(2, 3, 0);
        gas.step(1);
        expect.equal("its own fly off unmet, one bounces, one rests", gas.get(3, 3), 64 | 8);
        expect.equal("0 flew off", gas.get(4, 3), 1);
        expect.equal("3 flew off", gas.get(2, 3), 8);
        expect.equal("the resting one's mark", gas.marked(0), 3 * 128 + 3 * 8 + 6);
        expect.equal("the bounced one's mark", gas.marked(1), 3 * 128 + 3 * 8 + 3);
        expect.equal("gave particles", gas.book(3, 0), 0);
        expect.equal("gave p", gas.book(3, 1), -2);
        expect.equal("gave q", gas.book(3, 2), 0);
        expect.equal("got p", gas.account(0), 2);
        expect.equal("got q", gas.account(1), 0);
        expect.equal("too heavy to move", gas.edge(3, 3), 4);
    }

    /** A gas whose body of one cell in (3, 3), of a mass, is hit by one particle of each of some kinds. */
    private static SixWayGas hit(int mass, int... kinds) {
        SixWayGas gas = new SixWayGas(8, 8);
        gas.body(3, 3, true);
        gas.mass(mass);
        int[][] from = {{2, 3}, {3, 4}, {4, 4}, {4, 3}, {4, 2}, {3, 2}};
        for (int kind : kinds) {
            gas.set(from[kind][0], from[kind][1], 1 << kind);
        }
        return gas;
    }

    private static void moves(Expect expect) {
        SixWayGas gas = hit(2, 0);
        gas.step(1);
        expect.equal("account (2, 0) is 4 along 0, twice the mass: moved", gas.account(2), 1);
        expect.equal("in its place", gas.edge(4, 3), 4);
        expect.equal("not where it was", gas.edge(3, 3), 0);
        expect.equal("the account lost mass * (1, 0)", gas.account(0), 0);
        expect.equal("account q", gas.account(1), 0);
        expect.equal("the move is in no book", gas.book(3, 1), -2);
        gas = hit(3, 0);
        gas.step(1);
        expect.equal("4 is less than twice 3: not moved", gas.account(2), 0);
        expect.equal("the account stays", gas.account(0), 2);
        gas.mass(1);
        gas.step(1);
        expect.equal("moved with the new mass", gas.account(2), 1);
        expect.equal("the account then", gas.account(0), 1);
        gas.step(1);
        expect.equal("moved again, with no new push", gas.account(2), 2);
        gas.step(1);
        expect.equal("the account is used up", gas.account(2), 2);
    }

    private static void firstDirection(Expect expect) {
        int[][] neighbours = {{4, 3}, {4, 2}, {3, 2}, {2, 3}, {3, 4}, {4, 4}};
        for (int kind = 0; kind < 6; kind++) {
            SixWayGas gas = hit(2, kind);
            gas.step(1);
            expect.equal("pushed by " + kind + " alone", gas.edge(neighbours[kind][0], neighbours[kind][1]), 4);
            // With mass 1 the account is twice the mass along the directions beside it, too.
            int[] first = {0, 0, 1, 2, 3, 0};
            gas = hit(1, kind);
            gas.step(1);
            int[] due = neighbours[first[kind]];
            expect.equal("the first direction for " + kind, gas.edge(due[0], due[1]), 4);
        }
    }

    private static void exchanges(Expect expect) {
        SixWayGas gas = hit(2, 0);
        gas.set(4, 3, 64);
        gas.mark(4, 3, 6);
        gas.mark(2, 3, 0);
        gas.step(1);
        expect.equal("what was ahead is behind now", gas.get(3, 3), 64);
        expect.equal("what was in the body is with it", gas.get(4, 3), 8);
        expect.equal("the mark behind", gas.marked(0), 3 * 128 + 3 * 8 + 6);
        expect.equal("the mark with the body", gas.marked(1), 3 * 128 + 4 * 8 + 3);
    }

    private static void exchangesRowByRow(Expect expect) {
        SixWayGas gas = new SixWayGas(8, 8);
        gas.mass(1);
        gas.body(2, 1, true);
        gas.body(3, 1, true);
        gas.body(6, 4, true);
        gas.set(1, 1, 1);
        gas.set(3, 1, 64);
        gas.set(6, 4, 64);
        gas.step(1);
        // Gained are (4, 1) and (7, 4), left (2, 1) and (6, 4).
        expect.equal("(4, 1) is the body's", gas.edge(4, 1), 4);
        expect.equal("(3, 1) still is", gas.edge(3, 1), 4);
        expect.equal("(2, 1) is not any more", gas.edge(2, 1), 0);
        expect.equal("(7, 4) is the body's", gas.edge(7, 4), 4);
        expect.equal("(6, 4) is not any more", gas.edge(6, 4), 0);
        expect.equal("the bounced one went from (2, 1) to (4, 1)", gas.get(4, 1), 8);
        expect.equal("(2, 1) is empty", gas.get(2, 1), 0);
        expect.equal("(3, 1) keeps its own", gas.get(3, 1), 64);
        expect.equal("(7, 4) has what (6, 4) had", gas.get(7, 4), 64);
        expect.equal("(6, 4) has what (7, 4) had", gas.get(6, 4), 0);
        gas = new SixWayGas(8, 8);
        gas.mass(2);
        gas.body(7, 2, true);
        gas.body(4, 2, true);
        gas.set(3, 2, 1);
        gas.set(7, 2, 64);
        gas.step(1);
        // Gained are (0, 2) and (5, 2), left (4, 2) and (7, 2): the first ones of both change.
        expect.equal("round the grid", gas.edge(0, 2), 4);
        expect.equal("(0, 2) has what (4, 2) had", gas.get(0, 2), 8);
        expect.equal("(5, 2) has what (7, 2) had", gas.get(5, 2), 64);
    }

    private static void stopped(Expect expect) {
        for (int sort = 1; sort <= 3; sort++) {
            SixWayGas gas = hit(1, 3);
            // The first direction is 2: to (3, 2). That 3 would be free does not help.
            if (sort == 1) {
                gas.wall(3, 2, true);
            } else if (sort == 2) {
                gas.source(3, 2, 1);
            } else {
                gas.sink(3, 2, true);
            }
            gas.step(1);
            expect.equal("edge " + sort + " stops it", gas.edge(3, 3), 4);
            expect.equal("not moved", gas.account(2), 0);
            expect.equal("the account stays", gas.account(0), -2);
            expect.equal("the edge stays", gas.edge(3, 2), sort);
            expect.equal("no exchange", gas.get(3, 3), 1);
        }
    }

    /** A body that is a whole row moves along the row without any cell of it changing. */
    private static void ring(Expect expect) {
        SixWayGas gas = new SixWayGas(4, 4);
        for (int x = 0; x < 4; x++) {
            gas.body(x, 1, true);
        }
        gas.mass(2);
        gas.set(1, 1, 65);
        gas.step(1);
        expect.equal("moved", gas.account(2), 1);
        expect.equal("the account", gas.account(0), 0);
        expect.equal("nothing changed its place", gas.get(2, 1), 8);
        expect.equal("the resting one neither", gas.get(1, 1), 64);
        expect.equal("still the body's", gas.edge(0, 1), 4);
    }

    private static void noCells(Expect expect) {
        SixWayGas gas = hit(3, 0);
        gas.step(1);
        gas.body(3, 3, false);
        gas.mass(1);
        gas.step(3);
        expect.equal("without cells it does not move", gas.account(2), 0);
        expect.equal("the account stays", gas.account(0), 2);
        gas.body(6, 6, true);
        gas.step(1);
        expect.equal("with a cell it moves", gas.edge(7, 6), 4);
    }

    /** Pushes by all sets of kinds, with many masses: where it goes, and what is left of the account. */
    private static void everyPush(Expect expect) {
        for (int set = 0; set < 64; set++) {
            for (int mass = 1; mass <= 10; mass++) {
                onePush(expect, set, mass);
            }
        }
    }

    private static void onePush(Expect expect, int set, int mass) {
        int[] p = {1, 0, -1, -1, 0, 1};
        int[] q = {0, 1, 1, 0, -1, -1};
        int[] kinds = new int[Integer.bitCount(set)];
        int gotP = 0;
        int gotQ = 0;
        for (int kind = 0, i = 0; kind < 6; kind++) {
            if ((set >> kind & 1) != 0) {
                kinds[i++] = kind;
                gotP += 2 * p[kind];
                gotQ += 2 * q[kind];
            }
        }
        int[] along = {2 * gotP + gotQ, gotP + 2 * gotQ, gotQ - gotP, -2 * gotP - gotQ, -gotP - 2 * gotQ, gotP - gotQ};
        int d = 0;
        while (d < 6 && along[d] < 2 * mass) {
            d++;
        }
        int[][] places = {{4, 3}, {4, 2}, {3, 2}, {2, 3}, {3, 4}, {4, 4}, {3, 3}};
        SixWayGas gas = hit(mass, kinds);
        gas.wall(0, 0, true);
        gas.step(1);
        String what = "kinds " + set + ", mass " + mass;
        expect.equal(what + ": the place", gas.edge(places[d][0], places[d][1]), 4);
        expect.equal(what + ": moved", gas.account(2), d < 6 ? 1 : 0);
        expect.equal(what + ": account p", gas.account(0), gotP - (d < 6 ? mass * p[d] : 0));
        expect.equal(what + ": account q", gas.account(1), gotQ - (d < 6 ? mass * q[d] : 0));
        expect.equal(what + ": the wall stays", gas.edge(0, 0), 1);
    }

    /** Into the first cell, out of it, and stopped in it. */
    private static void firstCell(Expect expect) {
        SixWayGas gas = new SixWayGas(8, 8);
        gas.mass(2);
        gas.body(7, 0, true);
        gas.set(6, 0, 1);
        gas.step(1);
        expect.equal("into (0, 0)", gas.edge(0, 0), 4);
        expect.equal("with its particle", gas.get(0, 0), 8);
        gas.set(7, 0, 1);
        gas.step(1);
        expect.equal("out of (0, 0)", gas.edge(0, 0), 0);
        expect.equal("into (1, 0)", gas.edge(1, 0), 4);
        gas = new SixWayGas(8, 8);
        gas.mass(2);
        gas.body(0, 0, true);
        gas.wall(1, 0, true);
        gas.set(7, 0, 1);
        gas.step(1);
        expect.equal("stopped in (0, 0)", gas.edge(0, 0), 4);
        expect.equal("by the wall", gas.edge(1, 0), 1);
        expect.equal("not moved", gas.account(2), 0);
    }

    private static void fourMarks(Expect expect) {
        SixWayGas gas = hit(2, 0);
        gas.set(4, 3, 64);
        gas.set(3, 3, 64);
        gas.set(0, 0, 64);
        gas.mark(2, 3, 0);
        gas.mark(4, 3, 6);
        gas.mark(0, 0, 6);
        gas.mark(3, 3, 6);
        gas.step(1);
        expect.equal("bounced, with the body", gas.marked(0), 3 * 128 + 4 * 8 + 3);
        expect.equal("from ahead, behind it now", gas.marked(1), 3 * 128 + 3 * 8 + 6);
        expect.equal("far off", gas.marked(2), 6);
        expect.equal("resting in the body", gas.marked(3), 3 * 128 + 4 * 8 + 6);
    }
}

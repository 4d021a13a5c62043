/** Promise 11: account. */
public final class P11AccountTest {
    public static void main(String[] args) {
        Expect expect = new Expect();
        expect.sentence("Promise 11", "The body's account, the first or the second number (field 0, 1), or how often "
                + "it moved (2).",
                P11AccountTest::atFirst, P11AccountTest::everyKind, P11AccountTest::againstTheBook,
                P11AccountTest::wallsAreNotTheBody);
        expect.sentence("Promise 11", "IllegalArgumentException when field is none of these.",
                P11AccountTest::wrongCalls);
        expect.end();
    }

    private static void wrongCalls(Expect expect) {
        for (int field = 0; field <= 2; field++) {
            expect.equal("field " + field + " is fine", new SixWayGas(4, 4).account(field), 0);
        }
        for (int field : new int[] {-1, 3, 4, Integer.MIN_VALUE, Integer.MAX_VALUE}) {
            expect.refused("account " + field, IllegalArgumentException.class, Gases::busy, g -> g.account(field));
        }
    }

    private static void atFirst(Expect expect) {
        SixWayGas gas = new SixWayGas(8, 8);
        for (int field = 0; field < 3; field++) {
            expect.equal("at first", gas.account(field), 0);
        }
    }

    private static void everyKind(Expect expect) {
        int[][] from = {{2, 3}, {3, 4}, {4, 4}, {4, 3}, {4, 2}, {3, 2}};
        int[] p = {2, 0, -2, -2, 0, 2};
        int[] q = {0, 2, 2, 0, -2, -2};
        for (int kind = 0; kind < 6; kind++) {
            SixWayGas gas = new SixWayGas(8, 8);
            gas.body(3, 3, true);
            gas.set(from[kind][0], from[kind][1], 1 << kind);
            gas.step(1);
            expect.equal("p from kind " + kind, gas.account(0), p[kind]);
            expect.equal("q from kind " + kind, gas.account(1), q[kind]);
            expect.equal("not moved", gas.account(2), 0);
        }
    }

    /** What the body got and gave, and what moving cost, come to nothing in all. */
    private static void againstTheBook(Expect expect) {
        SixWayGas gas = new SixWayGas(8, 8);
        gas.body(3, 3, true);
        gas.body(4, 3, true);
        gas.mass(2);
        for (int x = 0; x < 8; x++) {
            gas.set(x, 6, 1 + 2 * x);
            gas.set(x, 1, 48 + x);
        }
        int[] p = {1, 0, -1, -1, 0, 1};
        int[] q = {0, 1, 1, 0, -1, -1};
        int spentP = 0;
        int spentQ = 0;
        for (int i = 0; i < 60; i++) {
            int movedBefore = gas.account(2);
            int pBefore = gas.account(0) + gas.book(3, 1);
            int qBefore = gas.account(1) + gas.book(3, 2);
            gas.step(1);
            int pLess = pBefore - gas.account(0) - gas.book(3, 1);
            int qLess = qBefore - gas.account(1) - gas.book(3, 2);
            boolean fits = pLess == 0 && qLess == 0 && gas.account(2) == movedBefore;
            for (int d = 0; d < 6; d++) {
                fits |= pLess == 2 * p[d] && qLess == 2 * q[d] && gas.account(2) == movedBefore + 1;
            }
            expect.equal("step " + i + " balances", fits, true);
            spentP += pLess;
            spentQ += qLess;
        }
        expect.equal("it moved", gas.account(2) > 3, true);
        expect.equal("p in all", gas.account(0), -gas.book(3, 1) - spentP);
        expect.equal("q in all", gas.account(1), -gas.book(3, 2) - spentQ);
    }

    private static void wallsAreNotTheBody(Expect expect) {
        SixWayGas gas = new SixWayGas(8, 8);
        gas.body(6, 6, true);
        gas.wall(3, 3, true);
        gas.set(2, 3, 1);
        gas.step(1);
        expect.equal("a wall's push is not the body's", gas.account(0), 0);
        expect.equal("it is in the walls' book", gas.book(0, 1), -2);
    }
}

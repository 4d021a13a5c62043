/** Promise 10: mass. */
public final class P10MassTest {
    public static void main(String[] args) {
        Expect expect = new Expect();
        expect.sentence("Promise 10", "The body's mass from now on.",
                P10MassTest::firstMass, P10MassTest::fromNowOn, P10MassTest::someMasses);
        expect.sentence("Promise 10", "IllegalArgumentException when it is not 1 .. 10000.",
                P10MassTest::lowestAndHighest, P10MassTest::wrongCalls);
        expect.end();
    }

    private static void wrongCalls(Expect expect) {
        for (int mass : new int[] {0, -1, 10001, Integer.MIN_VALUE, Integer.MAX_VALUE}) {
            expect.refused("mass " + mass, IllegalArgumentException.class, Gases::busy, g -> g.mass(mass));
        }
    }

    private static void someMasses(Expect expect) {
        for (int mass : new int[] {1, 2, 7, 50, 10000}) {
            thatMass(expect, mass);
        }
    }

    /** Pushes by 2 a step along 0, and tells how many steps it takes until the body moves. */
    private static int pushesUntilMoved(SixWayGas gas, int most) {
        for (int pushes = 1; pushes <= most; pushes++) {
            gas.set(2, 3, 1);
            gas.set(3, 3, 0);
            gas.step(1);
            if (gas.account(2) != 0) {
                return pushes;
            }
        }
        return SixWayGas.NONE;
    }

    private static void firstMass(Expect expect) {
        SixWayGas gas = new SixWayGas(8, 8);
        gas.body(3, 3, true);
        expect.equal("the first mass is 100: 50 pushes", pushesUntilMoved(gas, 60), 50);
        expect.equal("account", gas.account(0), 0);
    }

    /** A new mass counts for the account that there is, and does not change it. */
    private static void fromNowOn(Expect expect) {
        SixWayGas gas = new SixWayGas(8, 8);
        gas.body(3, 3, true);
        gas.set(2, 3, 1);
        gas.step(1);
        gas.mass(3);
        expect.equal("mass changes no account", gas.account(0), 2);
        gas.step(1);
        expect.equal("4 is less than twice 3", gas.account(2), 0);
        gas.mass(2);
        expect.equal("mass alone moves nothing", gas.account(2), 0);
        gas.step(1);
        expect.equal("4 is twice 2", gas.account(2), 1);
        SixWayGas none = new SixWayGas(8, 8);
        none.mass(1);
        none.body(3, 3, true);
        none.set(2, 3, 1);
        none.step(1);
        expect.equal("a mass may be given before there is a body", none.account(0), 1);
    }

    /** A column of 16 cells is pushed by 32 in every other step: 312 pushes are 9984, one more is enough for 10000. */
    private static void lowestAndHighest(Expect expect) {
        SixWayGas gas = new SixWayGas(16, 16);
        gas.mass(10000);
        for (int y = 0; y < 16; y++) {
            gas.wall(3, y, true);
            gas.body(4, y, true);
            gas.set(3, y, 1);
        }
        for (int i = 0; i < 13; i++) {
            gas.step(48);
        }
        expect.equal("9984 is not yet 10000", gas.account(2), 0);
        gas.step(1);
        expect.equal("10016 is", gas.account(2), 1);
        expect.equal("10000 were lost", gas.account(0), 16);
        gas.mass(1);
        gas.step(1);
        expect.equal("mass 1 moves it again", gas.account(2), 2);
        expect.equal("1 was lost", gas.account(0), 15);
    }

    private static void thatMass(Expect expect, int mass) {
        SixWayGas gas = new SixWayGas(8, 8);
        gas.body(3, 3, true);
        gas.mass(9);
        gas.mass(mass);
        int due = mass == 10000 ? SixWayGas.NONE : (mass + 1) / 2;
        expect.equal("mass " + mass, pushesUntilMoved(gas, 60), due);
        int left = mass == 10000 ? 120 : 2 * due - mass;
        expect.equal("account with mass " + mass, gas.account(0), left);
    }
}

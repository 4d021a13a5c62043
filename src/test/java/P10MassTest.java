/** Promise 10: mass. */
public final class P10MassTest {
    public static void main(String[] args) {
        Expect expect = new Expect();
        firstMass(expect);
        for (int mass : new int[] {1, 2, 7, 50, 10000}) {
            thatMass(expect, mass);
        }
        for (int mass : new int[] {0, -1, 10001, Integer.MIN_VALUE, Integer.MAX_VALUE}) {
            expect.refused("mass " + mass, IllegalArgumentException.class, Gases::busy, g -> g.mass(mass));
        }
        expect.end();
    }

    /** Pushes by 2 a step along 0, and tells how many steps it takes until the body moves. */
    private static int pushesUntilMoved(SixWayGas gas, int most) {
        for (int pushes = 1; pushes <= most; pushes++) {
            gas.set(2, 3, 1);
            gas.set(3, 3, 0);
            gas.step(1);
            if (gas.account(2) != 0) {
                return pushes;
            }
        }
        return SixWayGas.NONE;
    }

    private static void firstMass(Expect expect) {
        SixWayGas gas = new SixWayGas(8, 8);
        gas.body(3, 3, true);
        expect.equal("the first mass is 100: 50 pushes", pushesUntilMoved(gas, 60), 50);
        expect.equal("account", gas.account(0), 0);
    }

    private static void thatMass(Expect expect, int mass) {
        SixWayGas gas = new SixWayGas(8, 8);
        gas.body(3, 3, true);
        gas.mass(9);
        gas.mass(mass);
        int due = mass == 10000 ? SixWayGas.NONE : (mass + 1) / 2;
        expect.equal("mass " + mass, pushesUntilMoved(gas, 60), due);
        int left = mass == 10000 ? 120 : 2 * due - mass;
        expect.equal("account with mass " + mass, gas.account(0), left);
    }
}

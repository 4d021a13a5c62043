import java.lang.management.ManagementFactory;

/** That calls make no objects: all calls of a run share one room, so what is needed is made with the gas. */
public final class RoomTest {
    public static void main(String[] args) {
        com.sun.management.ThreadMXBean room = (com.sun.management.ThreadMXBean) ManagementFactory.getThreadMXBean();
        SixWayGas gas = Gases.busy();
        SixWayGas walled = Gases.walled();
        // Once before it counts, so that classes are loaded.
        useAll(gas, walled);
        long before = room.getCurrentThreadAllocatedBytes();
        for (int i = 0; i < 30; i++) {
            useAll(gas, walled);
        }
        long made = room.getCurrentThreadAllocatedBytes() - before;
        Expect expect = new Expect();
        // One row for the 48 cells in each of 30 rounds would be above this already.
        expect.equal(made + " bytes made by calls are hardly any", made < 30 * 48 * 4, true);
        expect.end();
    }

    private static void useAll(SixWayGas gas, SixWayGas walled) {
        gas.set(1, 5, gas.get(1, 5));
        gas.rule(9, 1);
        gas.wall(6, 0, true);
        gas.wall(6, 0, false);
        gas.sink(6, 0, true);
        gas.sink(6, 0, false);
        gas.source(6, 0, 9);
        gas.source(6, 0, 0);
        gas.mass(1 + gas.edge(0, 0));
        gas.seed(gas.account(2));
        gas.step(16);
        walled.step(16);
        walled.back(16);
        gas.sum(0, 0, 8, 6, 1);
        gas.book(3, 2);
        gas.check();
        gas.marked(0);
    }
}

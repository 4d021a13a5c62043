/** Promise 7: sink. */
public final class P07SinkTest {
    public static void main(String[] args) {
        Expect expect = new Expect();
        EdgeSwitch edge = new EdgeSwitch("sink", 3, SixWayGas::sink);
        expect.sentence("Promise 7", "A cell is a sink, or not any more: whether that is new.",
                edge::onAndOff, edge::refusedForNoCell, P07SinkTest::takesAll, P07SinkTest::meetsBefore);
        expect.sentence("Promise 7", "IllegalStateException when it is a wall, a source or one of the body.",
                edge::refusedOnOtherEdges);
        expect.end();
    }

    private static void takesAll(Expect expect) {
        SixWayGas gas = new SixWayGas(8, 8);
        gas.sink(3, 3, true);
        gas.set(3, 3, 64);
        gas.set(2, 3, 1);
        gas.set(1, 3, 1);
        gas.mark(3, 3, 6);
        gas.mark(2, 3, 0);
        gas.mark(1, 3, 0);
        gas.step(1);
        expect.equal("empty", gas.get(3, 3), 0);
        expect.equal("gave particles", gas.book(2, 0), -2);
        expect.equal("gave p", gas.book(2, 1), -1);
        expect.equal("gave q", gas.book(2, 2), 0);
        expect.equal("the resting one's mark", gas.marked(0), SixWayGas.NONE);
        expect.equal("the flying one's mark", gas.marked(1), SixWayGas.NONE);
        expect.equal("the one behind", gas.marked(2), 3 * 128 + 2 * 8);
        gas.sink(3, 3, false);
        gas.step(1);
        expect.equal("no sink any more", gas.get(3, 3), 1);
        expect.equal("lost stays lost", gas.marked(0), SixWayGas.NONE);
    }

    /** A sink's bits meet as a free cell's: those that are put into it turn and fly off. */
    private static void meetsBefore(Expect expect) {
        SixWayGas gas = new SixWayGas(8, 8);
        gas.sink(3, 3, true);
        gas.set(3, 3, 65);
        gas.step(1);
        expect.equal("by 1", gas.get(4, 2), 2);
        expect.equal("by 5", gas.get(4, 4), 32);
        expect.equal("none was taken", gas.book(2, 0), 0);
    }
}

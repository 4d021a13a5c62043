import java.util.NoSuchElementException;

/** Promise 18: mark. */
public final class P18MarkTest {
    public static void main(String[] args) {
        Expect expect = new Expect();
        numbers(expect);
        everyKind(expect);
        lostOnesCount(expect);
        wrongCalls(expect);
        expect.end();
    }

    private static void numbers(Expect expect) {
        SixWayGas gas = four();
        expect.equal("mark 3 is on", gas.marked(3), 128 + 8 + 3);
        expect.equal("mark 0 is on", gas.marked(0), 128 + 8);
        expect.equal("marks change no bits", gas.get(1, 1), 127);
    }

    /** Marks 0 .. 3 on the kinds 0 .. 3 in (1, 1), which has all kinds. */
    private static SixWayGas four() {
        SixWayGas gas = new SixWayGas(8, 8);
        gas.set(1, 1, 127);
        for (int kind = 0; kind < 4; kind++) {
            if (gas.mark(1, 1, kind) != kind) {
                throw new AssertionError("mark's number");
            }
        }
        return gas;
    }

    private static void everyKind(Expect expect) {
        for (int kind = 0; kind < 7; kind++) {
            SixWayGas gas = new SixWayGas(8, 8);
            gas.set(7, 7, 1 << kind);
            expect.equal("mark", gas.mark(7, 7, kind), 0);
            expect.equal("on kind " + kind, gas.marked(0), 7 * 128 + 7 * 8 + kind);
        }
    }

    private static void lostOnesCount(Expect expect) {
        SixWayGas gas = four();
        gas.set(1, 1, 127);
        expect.equal("lost", gas.marked(2), SixWayGas.NONE);
        expect.refused("a fifth mark", UnsupportedOperationException.class, P18MarkTest::fourLost, g -> g.mark(1, 1, 0));
        SixWayGas again = new SixWayGas(8, 8);
        again.set(1, 1, 1);
        again.mark(1, 1, 0);
        again.set(1, 1, 1);
        expect.equal("the new particle in the place has no mark", again.mark(1, 1, 0), 1);
    }

    private static SixWayGas fourLost() {
        SixWayGas gas = four();
        gas.set(1, 1, 127);
        return gas;
    }

    private static SixWayGas one() {
        SixWayGas gas = new SixWayGas(8, 8);
        gas.set(1, 1, 9);
        gas.mark(1, 1, 3);
        return gas;
    }

    private static void wrongCalls(Expect expect) {
        for (int kind : new int[] {-1, 7, 31, 32, 35, Integer.MIN_VALUE, Integer.MAX_VALUE}) {
            expect.refused("kind " + kind, IllegalArgumentException.class, P18MarkTest::one, g -> g.mark(1, 1, kind));
            expect.refused("kind " + kind + " with four", IllegalArgumentException.class, P18MarkTest::four,
                    g -> g.mark(1, 1, kind));
            expect.refused("kind " + kind + " in no cell", IndexOutOfBoundsException.class, P18MarkTest::one,
                    g -> g.mark(1, 8, kind));
        }
        expect.refused("no such particle", NoSuchElementException.class, P18MarkTest::one, g -> g.mark(1, 1, 1));
        expect.refused("no particle at all", NoSuchElementException.class, P18MarkTest::one, g -> g.mark(2, 1, 3));
        expect.refused("no such particle, four marks", NoSuchElementException.class, P18MarkTest::four, g -> g.mark(2, 1, 3));
        expect.refused("marked already", IllegalStateException.class, P18MarkTest::one, g -> g.mark(1, 1, 3));
        expect.refused("marked already, four marks", IllegalStateException.class, P18MarkTest::four, g -> g.mark(1, 1, 3));
        expect.refused("four marks", UnsupportedOperationException.class, P18MarkTest::four, g -> g.mark(1, 1, 4));
        NoCell.refusedEverywhere(expect, "mark", (g, x, y) -> g.mark(x, y, 0));
    }
}

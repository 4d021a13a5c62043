import java.util.NoSuchElementException;

/** Promise 18: mark. */
public final class P18MarkTest {
    public static void main(String[] args) {
        Expect expect = new Expect();
        expect.sentence("Promise 18", "Marks a particle: the mark's number.",
                P18MarkTest::numbers, P18MarkTest::everyKind, P18MarkTest::noCell);
        expect.sentence("Promise 18", "IllegalArgumentException when kind is not 0 .. 6;",
                P18MarkTest::wrongKinds);
        expect.sentence("Promise 18", "NoSuchElementException when the cell has no such particle;",
                P18MarkTest::noSuchParticle);
        expect.sentence("Promise 18", "IllegalStateException when it has a mark already;",
                P18MarkTest::markedAlready);
        expect.sentence("Promise 18", "UnsupportedOperationException when there are four marks (lost ones, too).",
                P18MarkTest::fourMarks, P18MarkTest::lostOnesCount);
        expect.end();
    }

    private static void fourMarks(Expect expect) {
        expect.refused("four marks", UnsupportedOperationException.class, P18MarkTest::four, g -> g.mark(1, 1, 4));
    }

    private static void noCell(Expect expect) {
        NoCell.refusedEverywhere(expect, "mark", (g, x, y) -> g.mark(x, y, 0));
    }

    private static void numbers(Expect expect) {
        SixWayGas gas = four();
        expect.equal("mark 3 is on", gas.marked(3), 128 + 8 + 3);
        expect.equal("mark 0 is on", gas.marked(0), 128 + 8);
        expect.equal("marks change no bits", gas.get(1, 1), 127);
    }

    /** Marks 0 .. 3 on the kinds 0 .. 3 in (1, 1), which has all kinds. */
    private static SixWayGas four() {
        SixWayGas gas = new SixWayGas(8, 8);
        gas.set(1, 1, 127);
        for (int kind = 0; kind < 4; kind++) {
            if (gas.mark(1, 1, kind) != kind) {
                throw new AssertionError("mark's number");
            }
        }
        return gas;
    }

    private static void everyKind(Expect expect) {
        for (int kind = 0; kind < 7; kind++) {
            SixWayGas gas = new SixWayGas(8, 8);
            gas.set(7, 7, 1 << kind);
            expect.equal("mark", gas.mark(7, 7, kind), 0);
            expect.equal("on kind " + kind, gas.marked(0), 7 * 128 + 7 * 8 + kind);
        }
    }

    private static void lostOnesCount(Expect expect) {
        SixWayGas gas = four();
        gas.set(1, 1, 127);
        expect.equal("lost", gas.marked(2), SixWayGas.NONE);
        expect.refused("a fifth mark", UnsupportedOperationException.class, P18MarkTest::fourLost, g -> g.mark(1, 1, 0));
        expect.refused("one of four is lost", UnsupportedOperationException.class, P18MarkTest::oneOfFourLost,
                g -> g.mark(3, 3, 1));
        SixWayGas three = new SixWayGas(4, 4);
        three.set(0, 0, 127);
        for (int mark = 0; mark <= 3; mark++) {
            expect.equal("with " + mark + " marks there is room", three.mark(0, 0, mark), mark);
        }
        SixWayGas again = new SixWayGas(8, 8);
        again.set(1, 1, 1);
        again.mark(1, 1, 0);
        again.set(1, 1, 1);
        expect.equal("the new particle in the place has no mark", again.mark(1, 1, 0), 1);
    }

    private static SixWayGas fourLost() {
        SixWayGas gas = four();
        gas.set(1, 1, 127);
        return gas;
    }

    private static SixWayGas oneOfFourLost() {
        SixWayGas gas = new SixWayGas(4, 4);
        gas.set(3, 3, 127);
        gas.set(0, 0, 1);
        gas.mark(0, 0, 0);
        for (int kind = 4; kind <= 6; kind++) {
            gas.mark(3, 3, kind);
        }
        gas.set(0, 0, 0);
        return gas;
    }

    private static SixWayGas one() {
        SixWayGas gas = new SixWayGas(8, 8);
        gas.set(1, 1, 9);
        gas.mark(1, 1, 3);
        return gas;
    }

    private static void wrongKinds(Expect expect) {
        for (int kind : new int[] {0, 6}) {
            SixWayGas gas = Gases.filled(4, 4, 127);
            expect.equal("kind " + kind + " is fine", gas.mark(0, 0, kind), 0);
        }
        for (int kind : new int[] {-1, 7, 31, 32, 35, Integer.MIN_VALUE, Integer.MAX_VALUE}) {
            expect.refused("kind " + kind, IllegalArgumentException.class, P18MarkTest::one, g -> g.mark(1, 1, kind));
            expect.refused("kind " + kind + " with four", IllegalArgumentException.class, P18MarkTest::four,
                    g -> g.mark(1, 1, kind));
            expect.refused("kind " + kind + " in no cell", IndexOutOfBoundsException.class, P18MarkTest::one,
                    g -> g.mark(1, 8, kind));
        }
    }

    private static void noSuchParticle(Expect expect) {
        for (int kind = 0; kind <= 6; kind++) {
            int missing = kind;
            expect.refused("all but " + kind, NoSuchElementException.class, () -> Gases.filled(4, 4, 127 ^ 1 << missing),
                    g -> g.mark(3, 3, missing));
        }
        expect.refused("no such particle", NoSuchElementException.class, P18MarkTest::one, g -> g.mark(1, 1, 1));
        expect.refused("no particle at all", NoSuchElementException.class, P18MarkTest::one, g -> g.mark(2, 1, 3));
        expect.refused("no such particle, four marks", NoSuchElementException.class, P18MarkTest::four, g -> g.mark(2, 1, 3));
    }

    private static void markedAlready(Expect expect) {
        SixWayGas gas = new SixWayGas(4, 4);
        gas.set(3, 3, 8);
        gas.mark(3, 3, 3);
        gas.step(3);
        expect.equal("where it flew from it is no more", gas.marked(0), Six.place(0, 3, 3));
        gas.set(3, 3, 8);
        expect.equal("another one in its first place has none", gas.mark(3, 3, 3), 1);
        expect.refused("marked already, and flown", IllegalStateException.class, P18MarkTest::flown, g -> g.mark(2, 1, 0));
        expect.refused("marked already", IllegalStateException.class, P18MarkTest::one, g -> g.mark(1, 1, 3));
        expect.refused("marked already, four marks", IllegalStateException.class, P18MarkTest::four, g -> g.mark(1, 1, 3));
    }

    private static SixWayGas flown() {
        SixWayGas gas = new SixWayGas(8, 8);
        gas.set(1, 1, 1);
        gas.mark(1, 1, 0);
        gas.step(1);
        return gas;
    }
}

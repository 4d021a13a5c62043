/** Promise 16: book. */
public final class P16BookTest {
    public static void main(String[] args) {
        Expect expect = new Expect();
        expect.sentence("Promise 16", "What walls, sources, sinks or the body (kind 0 .. 3) gave: particles (field "
                + "0), or momentum (1, 2).",
                P16BookTest::eachInItsOwn, P16BookTest::addedUp, P16BookTest::keptWhenEdgesGo);
        expect.sentence("Promise 16", "IllegalArgumentException when kind or field is none of these.",
                P16BookTest::wrongCalls);
        expect.end();
    }

    /** Four edges in rows of their own, each hit by a particle of kind 5 and one of kind 0. */
    private static SixWayGas four() {
        SixWayGas gas = new SixWayGas(16, 16);
        for (int sort = 0; sort < 4; sort++) {
            gas.set(4, 3 + 4 * sort, 1);
            gas.set(5, 2 + 4 * sort, 32);
        }
        gas.wall(5, 3, true);
        gas.source(5, 7, 256);
        gas.sink(5, 11, true);
        gas.body(5, 15, true);
        return gas;
    }

    private static void eachInItsOwn(Expect expect) {
        SixWayGas gas = four();
        for (int kind = 0; kind < 4; kind++) {
            for (int field = 0; field < 3; field++) {
                expect.equal("at first", gas.book(kind, field), 0);
            }
        }
        gas.step(1);
        int[][] due = {{0, -4, 2}, {5, -2, 1}, {-2, -2, 1}, {0, -4, 2}};
        for (int kind = 0; kind < 4; kind++) {
            for (int field = 0; field < 3; field++) {
                expect.equal("book(" + kind + ", " + field + ")", gas.book(kind, field), due[kind][field]);
            }
        }
    }

    private static void addedUp(Expect expect) {
        SixWayGas gas = new SixWayGas(8, 8);
        gas.sink(1, 1, true);
        gas.sink(6, 6, true);
        for (int i = 1; i <= 3; i++) {
            gas.set(0, 1, 1);
            gas.set(7, 6, 8);
            gas.set(7, 6, 8 | 16);
            gas.step(1);
            expect.equal("two sinks, " + i + " steps", gas.book(2, 0), -2 * i);
            expect.equal("their momenta", gas.book(2, 1), 0);
        }
    }

    private static void keptWhenEdgesGo(Expect expect) {
        SixWayGas gas = four();
        gas.step(1);
        gas.wall(5, 3, false);
        gas.source(5, 7, 0);
        gas.sink(5, 11, false);
        gas.body(5, 15, false);
        gas.step(1);
        expect.equal("walls'", gas.book(0, 1), -4);
        expect.equal("sources'", gas.book(1, 0), 5);
        expect.equal("sinks'", gas.book(2, 0), -2);
        expect.equal("body's", gas.book(3, 2), 2);
    }

    private static void wrongCalls(Expect expect) {
        for (int i = 0; i < 12; i++) {
            expect.equal("book(" + i / 3 + ", " + i % 3 + ") is fine", new SixWayGas(4, 4).book(i / 3, i % 3), 0);
        }
        int[] off = {-1, Integer.MIN_VALUE, Integer.MAX_VALUE};
        for (int value : off) {
            expect.refused("kind " + value, IllegalArgumentException.class, Gases::busy, g -> g.book(value, 0));
            expect.refused("field " + value, IllegalArgumentException.class, Gases::busy, g -> g.book(0, value));
        }
        expect.refused("kind 4", IllegalArgumentException.class, Gases::busy, g -> g.book(4, 0));
        expect.refused("field 3", IllegalArgumentException.class, Gases::busy, g -> g.book(0, 3));
        expect.refused("kind 4, field 3", IllegalArgumentException.class, Gases::busy, g -> g.book(4, 3));
    }
}

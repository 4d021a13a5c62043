import java.util.NoSuchElementException;
import java.util.function.Consumer;

/** Terms: calls that throw, which exception it is where several fit, and that nothing is changed. */
public final class TermsRefusalsTest {
    private static final Class<IndexOutOfBoundsException> INDEX = IndexOutOfBoundsException.class;
    private static final Class<IllegalArgumentException> ARGUMENT = IllegalArgumentException.class;
    private static final Class<IllegalStateException> STATE = IllegalStateException.class;
    private static final Class<NoSuchElementException> NO_SUCH = NoSuchElementException.class;
    private static final Class<UnsupportedOperationException> UNSUPPORTED = UnsupportedOperationException.class;

    private final Expect expect;

    private TermsRefusalsTest(Expect expect) {
        this.expect = expect;
    }

    public static void main(String[] args) {
        Expect expect = new Expect();
        TermsRefusalsTest test = new TermsRefusalsTest(expect);
        expect.sentence("Terms", "A call that throws changes nothing;",
                e -> test.oneFits());
        expect.sentence("Terms", "where several exceptions that a call names fit, it is the one that it names first.",
                e -> test.severalFit(), e -> test.severalFitMark());
        expect.sentence("Terms", "All calls for a cell that is none are refused with IndexOutOfBoundsException.",
                e -> test.noCell());
        expect.end();
    }

    private void refused(String what, Class<? extends Exception> due, Consumer<SixWayGas> call) {
        expect.refused(what, due, Gases::busy, call);
    }

    private void oneFits() {
        for (int off : new int[] {Integer.MIN_VALUE, -1, 128, Integer.MAX_VALUE}) {
            refused("set, bits " + off, ARGUMENT, g -> g.set(1, 1, off));
            refused("rule, bits " + off, ARGUMENT, g -> g.rule(off, 0));
        }
        for (int off : new int[] {Integer.MIN_VALUE, -1, 2, Integer.MAX_VALUE}) {
            refused("rule, sense " + off, ARGUMENT, g -> g.rule(9, off));
        }
        for (int off : new int[] {Integer.MIN_VALUE, -1, 257, Integer.MAX_VALUE}) {
            refused("source on a free cell, rate " + off, ARGUMENT, g -> g.source(1, 1, off));
            refused("source on a source, rate " + off, ARGUMENT, g -> g.source(4, 0, off));
        }
        for (int off : new int[] {Integer.MIN_VALUE, 0, 10001, Integer.MAX_VALUE}) {
            refused("mass " + off, ARGUMENT, g -> g.mass(off));
        }
        for (int off : new int[] {Integer.MIN_VALUE, -1, 3, Integer.MAX_VALUE}) {
            refused("account " + off, ARGUMENT, g -> g.account(off));
            refused("book, field " + off, ARGUMENT, g -> g.book(3, off));
            refused("sum, field " + off, ARGUMENT, g -> g.sum(7, 5, 1, 1, off));
        }
        for (int off : new int[] {Integer.MIN_VALUE, -1, 4, Integer.MAX_VALUE}) {
            refused("book " + off, ARGUMENT, g -> g.book(off, 2));
        }
        for (int off : new int[] {Integer.MIN_VALUE, -1, 65, Integer.MAX_VALUE}) {
            refused("step " + off, ARGUMENT, g -> g.step(off));
        }
        for (int n : new int[] {0, 1, 64}) {
            refused("back " + n + " with a source, a sink and a body", UNSUPPORTED, g -> g.back(n));
        }
        for (int off : new int[] {Integer.MIN_VALUE, -1, 3, Integer.MAX_VALUE}) {
            refused("marked " + off + " with three marks", INDEX, g -> g.marked(off));
        }
        otherEdges();
    }

    /** The busy gas has a wall in (0, 0), a source in (4, 0), a sink in (0, 4), and the body. */
    private void otherEdges() {
        int[] body = bodyCell();
        int[][] places = {{0, 0}, {4, 0}, {0, 4}, body};
        for (int there = 1; there <= 4; there++) {
            int x = places[there - 1][0];
            int y = places[there - 1][1];
            for (int other = 1; other <= 4; other++) {
                int sort = other;
                if (sort != there) {
                    refused("edge " + other + " on edge " + there, STATE, g -> Gases.putEdge(g, x, y, sort));
                    refused("edge " + other + " off on edge " + there, STATE, g -> Gases.takeEdge(g, x, y, sort));
                }
            }
        }
    }

    private static int[] bodyCell() {
        SixWayGas gas = Gases.busy();
        for (int i = 0; i < 48; i++) {
            if (gas.edge(i % 8, i / 8) == 4) {
                return new int[] {i % 8, i / 8};
            }
        }
        throw new AssertionError("no body");
    }

    private void severalFit() {
        refused("set: no cell, no bits", INDEX, g -> g.set(8, 5, 128));
        refused("set: no cell, no bits, too low", INDEX, g -> g.set(0, -1, -1));
        refused("source: no cell, no rate", INDEX, g -> g.source(8, 0, 257));
        refused("source: no cell, no rate, too low", INDEX, g -> g.source(-1, 0, -1));
        int[] body = bodyCell();
        int[][] others = {{0, 0}, {0, 4}, body};
        for (int[] other : others) {
            refused("source: no rate, another edge", ARGUMENT, g -> g.source(other[0], other[1], 257));
            refused("source: no rate, too low, another edge", ARGUMENT, g -> g.source(other[0], other[1], -1));
        }
        refused("sum: no first cell, no field", INDEX, g -> g.sum(8, 0, 1, 1, 3));
        refused("sum: no last cell, no field", INDEX, g -> g.sum(7, 5, 2, 1, 3));
        refused("sum: no width, no field", INDEX, g -> g.sum(0, 0, 0, 1, -1));
        refused("sum: no height, no field", INDEX, g -> g.sum(0, 0, 1, 0, -1));
        refused("back: too many, and edges", ARGUMENT, g -> g.back(65));
        refused("back: too few, and edges", ARGUMENT, g -> g.back(-1));
        // A place around the grid is no cell, so that it is no other edge either.
        refused("sink: no cell, a wall behind the grid", INDEX, g -> g.sink(8, 0, true));
        refused("body: no cell, a sink behind the grid", INDEX, g -> g.body(8, 4, true));
        refused("wall: no cell, a source behind the grid", INDEX, g -> g.wall(4, 6, true));
        refused("source: no cell, a wall behind the grid", INDEX, g -> g.source(0, 6, 1));
    }

    /** Four marks, on the kinds 0 .. 3 of a full (3, 3); (0, 0) is empty. */
    private static SixWayGas four() {
        SixWayGas gas = new SixWayGas(4, 4);
        gas.set(3, 3, 127);
        for (int kind = 0; kind <= 3; kind++) {
            gas.mark(3, 3, kind);
        }
        return gas;
    }

    private void refusedMark(String what, Class<? extends Exception> due, int x, int y, int kind) {
        expect.refused("mark: " + what, due, TermsRefusalsTest::four, g -> g.mark(x, y, kind));
    }

    private void severalFitMark() {
        refusedMark("no cell, no kind, four marks", INDEX, 4, 3, 7);
        refusedMark("no cell, no kind, too low, four marks", INDEX, 3, -1, -1);
        refusedMark("no cell, four marks", INDEX, -1, 3, 0);
        refusedMark("no kind, no particle, four marks", ARGUMENT, 0, 0, 7);
        refusedMark("no kind, too low, no particle, four marks", ARGUMENT, 0, 0, -1);
        refusedMark("no kind, four marks", ARGUMENT, 3, 3, 7);
        refusedMark("no particle, four marks", NO_SUCH, 0, 0, 0);
        refusedMark("a mark already, four marks", STATE, 3, 3, 3);
        refusedMark("four marks", UNSUPPORTED, 3, 3, 4);
        refused("mark: no cell, no kind", INDEX, g -> g.mark(8, 0, 7));
        refused("mark: no kind, no particle", ARGUMENT, g -> g.mark(6, 1, 7));
        refused("mark: no particle", NO_SUCH, g -> g.mark(6, 1, 1));
    }

    private void noCell() {
        NoCell.refusedEverywhere(expect, "set", (g, x, y) -> g.set(x, y, 1));
        NoCell.refusedEverywhere(expect, "get", (g, x, y) -> g.get(x, y));
        for (boolean on : new boolean[] {true, false}) {
            NoCell.refusedEverywhere(expect, "wall " + on, (g, x, y) -> g.wall(x, y, on));
            NoCell.refusedEverywhere(expect, "sink " + on, (g, x, y) -> g.sink(x, y, on));
            NoCell.refusedEverywhere(expect, "body " + on, (g, x, y) -> g.body(x, y, on));
        }
        NoCell.refusedEverywhere(expect, "source", (g, x, y) -> g.source(x, y, 1));
        NoCell.refusedEverywhere(expect, "source off", (g, x, y) -> g.source(x, y, 0));
        NoCell.refusedEverywhere(expect, "edge", (g, x, y) -> g.edge(x, y));
        NoCell.refusedEverywhere(expect, "sum", (g, x, y) -> g.sum(x, y, 1, 1, 0));
        NoCell.refusedEverywhere(expect, "mark", (g, x, y) -> g.mark(x, y, 0));
    }
}

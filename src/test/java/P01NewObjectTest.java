/** Promise 1: a new object. */
public final class P01NewObjectTest {
    public static void main(String[] args) {
        Expect expect = new Expect();
        expect.sentence("Promise 1", "w columns, h rows, 8 for either that is not an even number 4 .. 16;",
                P01NewObjectTest::sides);
        expect.sentence("Promise 1", "no particles, no edges.",
                P01NewObjectTest::empty);
        expect.end();
    }

    private static void sides(Expect expect) {
        int[] asked = {Integer.MIN_VALUE, -8, -4, -1, 0, 1, 2, 3, 4, 5, 6, 7, 8, 9, 10, 11, 12, 13, 14, 15, 16, 17, 18,
            20, 1 << 20, Integer.MAX_VALUE};
        for (int side : asked) {
            int due = side >= 4 && side <= 16 && side % 2 == 0 ? side : 8;
            SixWayGas wide = new SixWayGas(side, 6);
            expect.equal("columns for " + side, State.width(wide), due);
            expect.equal("rows beside " + side, State.height(wide), 6);
            SixWayGas high = new SixWayGas(6, side);
            expect.equal("rows for " + side, State.height(high), due);
            expect.equal("columns beside " + side, State.width(high), 6);
        }
        SixWayGas both = new SixWayGas(3, 17);
        expect.equal("columns for 3 and 17", State.width(both), 8);
        expect.equal("rows for 3 and 17", State.height(both), 8);
        SixWayGas smallest = new SixWayGas(4, 4);
        expect.equal("columns of 4 x 4", State.width(smallest), 4);
        expect.equal("rows of 4 x 4", State.height(smallest), 4);
        SixWayGas largest = new SixWayGas(16, 16);
        expect.equal("columns of 16 x 16", State.width(largest), 16);
        expect.equal("rows of 16 x 16", State.height(largest), 16);
    }

    private static void empty(Expect expect) {
        SixWayGas large = new SixWayGas(16, 16);
        for (int i = 0; i < 256; i++) {
            expect.equal("particles in " + Six.at(i % 16, i / 16), large.get(i % 16, i / 16), 0);
        }
        large = new SixWayGas(16, 16);
        for (int i = 0; i < 256; i++) {
            expect.equal("edge in " + Six.at(i % 16, i / 16), large.edge(i % 16, i / 16), 0);
        }
        SixWayGas one = new SixWayGas(4, 4);
        one.set(0, 0, 127);
        one.wall(3, 3, true);
        expect.equal("objects share nothing", new SixWayGas(4, 4).check(), 0);
        expect.equal("objects share no edge", new SixWayGas(4, 4).edge(3, 3), 0);
        expect.same("a new object", State.of(new SixWayGas(4, 16)), "time 0 check 0 book 0/0/0 book 0/0/0 book 0/0/0"
                + " book 0/0/0 account 0/0 moved 0 marks");
        expect.equal("NONE", SixWayGas.NONE, -1);
    }
}

/** Promise 1: a new object. */
public final class P01NewObjectTest {
    public static void main(String[] args) {
        Expect expect = new Expect();
        int[] asked = {Integer.MIN_VALUE, -8, -4, -1, 0, 1, 2, 3, 4, 5, 6, 7, 8, 9, 10, 11, 12, 13, 14, 15, 16, 17, 18,
            20, 1 << 20, Integer.MAX_VALUE};
        for (int side : asked) {
            int due = side >= 4 && side <= 16 && side % 2 == 0 ? side : 8;
            SixWayGas wide = new SixWayGas(side, 6);
            expect.equal("columns for " + side, State.width(wide), due);
            expect.equal("rows beside " + side, State.height(wide), 6);
            SixWayGas high = new SixWayGas(6, side);
            expect.equal("rows for " + side, State.height(high), due);
            expect.equal("columns beside " + side, State.width(high), 6);
        }
        expect.same("a new object", State.of(new SixWayGas(4, 16)), "time 0 check 0 book 0/0/0 book 0/0/0 book 0/0/0"
                + " book 0/0/0 account 0/0 moved 0 marks");
        expect.equal("NONE", SixWayGas.NONE, -1);
        expect.end();
    }
}

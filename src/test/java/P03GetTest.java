/** Promise 3: get. */
public final class P03GetTest {
    public static void main(String[] args) {
        Expect expect = new Expect();
        SixWayGas gas = new SixWayGas(16, 4);
        for (int y = 0; y < 4; y++) {
            for (int x = 0; x < 16; x++) {
                expect.equal("a new cell", gas.get(x, y), 0);
                gas.set(x, y, y * 16 + x);
            }
        }
        for (int y = 0; y < 4; y++) {
            for (int x = 0; x < 16; x++) {
                expect.equal("get(" + x + ", " + y + ")", gas.get(x, y), y * 16 + x);
            }
        }
        NoCell.refusedEverywhere(expect, "get", (g, x, y) -> g.get(x, y));
        expect.end();
    }
}

/** "An object is used for at most 512 calls after it has been made": the 512th is still answered as due. */
public final class LongUseTest {
    public static void main(String[] args) {
        Expect expect = new Expect();
        SixWayGas gas = Gases.filled(16, 16, 127);
        for (int call = 257; call < 512; call++) {
            expect.equal("call " + call, gas.step(64), 64 * (call - 256));
        }
        expect.equal("the 512th call: full as at first", gas.check(), 127 * 256 * 257 / 2);
        SixWayGas back = Gases.filled(16, 16, 21);
        // That is call 257; the 127 calls behind it are taken back by as many, and the 512th tells.
        back.wall(15, 15, true);
        for (int i = 0; i < 127; i++) {
            back.step(64);
        }
        for (int i = 0; i < 127; i++) {
            back.back(64);
        }
        expect.equal("the 512th call: all steps taken back", back.check(), 21 * 256 * 257 / 2);
        expect.end();
    }
}

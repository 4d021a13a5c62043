/** How long an object is used: the 512th call is still answered as due. */
public final class LongUseTest {
    public static void main(String[] args) {
        Expect expect = new Expect();
        expect.sentence("What it is", "An object is used for at most 512 calls after it has been made; what later calls "
                + "answer is free.",
                LongUseTest::longestTime, LongUseTest::steps, LongUseTest::backAgain, LongUseTest::accounts);
        expect.end();
    }

    private static void longestTime(Expect expect) {
        SixWayGas forth = new SixWayGas(4, 4);
        SixWayGas back = new SixWayGas(4, 4);
        for (int call = 1; call <= 512; call++) {
            expect.equal("step, call " + call, forth.step(64), 64 * call);
            expect.equal("back, call " + call, back.back(64), -64 * call);
        }
    }

    private static void steps(Expect expect) {
        SixWayGas gas = Gases.filled(16, 16, 127);
        for (int call = 257; call < 512; call++) {
            expect.equal("call " + call, gas.step(64), 64 * (call - 256));
        }
        expect.equal("the 512th call: full as at first", gas.check(), 127 * 256 * 257 / 2);
    }

    private static void backAgain(Expect expect) {
        SixWayGas back = Gases.filled(16, 16, 21);
        // That is call 257; the 127 calls behind it are taken back by as many, and the 512th tells.
        back.wall(15, 15, true);
        for (int i = 0; i < 127; i++) {
            back.step(64);
        }
        for (int i = 0; i < 127; i++) {
            back.back(64);
        }
        expect.equal("the 512th call: all steps taken back", back.check(), 21 * 256 * 257 / 2);
    }

    /** A body that can't move gets 2 from each of 16 particles in every four steps, for as long as can be. */
    private static void accounts(Expect expect) {
        SixWayGas gas = new SixWayGas(4, 16);
        for (int y = 0; y < 16; y++) {
            gas.set(0, y, 1);
            gas.body(1, y, true);
            gas.wall(2, y, true);
            gas.wall(3, y, true);
        }
        for (int call = 65; call < 511; call++) {
            gas.step(64);
        }
        // The four steps: into the body, back, into column 3's wall, and back.
        expect.equal("the 511th call: the body's account", gas.account(0), 2 * 16 * 446 * 16);
        expect.equal("the 512th call: what walls gave", gas.book(0, 1), 2 * 16 * 446 * 16);
    }
}

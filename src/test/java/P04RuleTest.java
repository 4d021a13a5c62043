/** Promise 4: rule. */
public final class P04RuleTest {
    public static void main(String[] args) {
        Expect expect = new Expect();
        expect.sentence("Promise 4", "What THE RULE makes of bits.",
                P04RuleTest::everyNamedCase, P04RuleTest::everyBits, P04RuleTest::changesNothing);
        expect.sentence("Promise 4", "IllegalArgumentException when bits are not 0 .. 127, or sense is not 0 or 1.",
                P04RuleTest::wrongCalls);
        expect.end();
    }

    private static int kinds(int... some) {
        int bits = 0;
        for (int kind : some) {
            bits |= 1 << Math.floorMod(kind, 6);
        }
        return bits;
    }

    private static void everyNamedCase(Expect expect) {
        SixWayGas gas = new SixWayGas(8, 8);
        for (int rest = 0; rest <= 64; rest += 64) {
            for (int d = 0; d < 6; d++) {
                int pair = kinds(d, d + 3);
                expect.equal("pair " + d + ", sense 0", gas.rule(pair | rest, 0), kinds(d + 1, d + 4) | rest);
                expect.equal("pair " + d + ", sense 1", gas.rule(pair | rest, 1), kinds(d - 1, d + 2) | rest);
                int four = 63 ^ pair;
                expect.equal("four but " + d + ", sense 0", gas.rule(four | rest, 0), 63 ^ kinds(d + 1, d + 4) | rest);
                expect.equal("four but " + d + ", sense 1", gas.rule(four | rest, 1), 63 ^ kinds(d - 1, d + 2) | rest);
            }
            for (int sense = 0; sense < 2; sense++) {
                expect.equal("0, 2, 4", gas.rule(21 | rest, sense), 42 | rest);
                expect.equal("1, 3, 5", gas.rule(42 | rest, sense), 21 | rest);
                expect.equal("all", gas.rule(63 | rest, sense), 63 | rest);
                expect.equal("none", gas.rule(rest, sense), rest);
            }
        }
        for (int d = 0; d < 6; d++) {
            for (int sense = 0; sense < 2; sense++) {
                int sides = kinds(d - 1, d + 1);
                expect.equal("one and a resting one", gas.rule(kinds(d) | 64, sense), sides);
                expect.equal("two beside one", gas.rule(sides, sense), kinds(d) | 64);
                expect.equal("two beside one and a resting one", gas.rule(sides | 64, sense), sides | 64);
                expect.equal("one alone", gas.rule(kinds(d), sense), kinds(d));
                expect.equal("two side by side", gas.rule(kinds(d, d + 1), sense), kinds(d, d + 1));
                expect.equal("three in a row", gas.rule(kinds(d, d + 1, d + 2), sense), kinds(d, d + 1, d + 2));
                expect.equal("a pair and one", gas.rule(kinds(d, d + 3, d + 1), sense), kinds(d, d + 3, d + 1));
                expect.equal("five", gas.rule(63 ^ kinds(d), sense), 63 ^ kinds(d));
            }
        }
    }

    private static void everyBits(Expect expect) {
        SixWayGas gas = new SixWayGas(8, 8);
        PlainGas plain = new PlainGas(8, 8);
        for (int sense = 0; sense < 2; sense++) {
            for (int bits = 0; bits < 128; bits++) {
                int turned = gas.rule(bits, sense);
                String what = "rule(" + bits + ", " + sense + ")";
                expect.equal(what, turned, plain.rule(bits, sense));
                expect.equal(what + " keeps the number", Integer.bitCount(turned), Integer.bitCount(bits));
                expect.equal(what + " is undone by the other sense", gas.rule(turned, 1 - sense), bits);
                for (int field = 1; field < 3; field++) {
                    gas.set(0, 0, bits);
                    int before = gas.sum(0, 0, 8, 8, field);
                    gas.set(0, 0, turned);
                    expect.equal(what + " keeps the momentum", gas.sum(0, 0, 8, 8, field), before);
                }
            }
        }
    }

    /** It only tells: no cell and no time is changed by it. */
    private static void changesNothing(Expect expect) {
        SixWayGas gas = Gases.busy();
        for (int bits = 0; bits < 128; bits++) {
            gas.rule(bits, bits % 2);
        }
        expect.same("the state behind many calls", State.of(gas), State.of(Gases.busy()));
    }

    private static void wrongCalls(Expect expect) {
        SixWayGas gas = new SixWayGas(4, 4);
        expect.equal("rule(0, 0) is fine", gas.rule(0, 0), 0);
        expect.equal("rule(127, 1) is fine", gas.rule(127, 1), 127);
        int[][] wrong = {{-1, 0}, {128, 0}, {128, 1}, {9, -1}, {9, 2}, {0, 2}, {127, 2}, {0, -1}, {-1, 2},
            {128, -1}, {Integer.MIN_VALUE, 0},
            {Integer.MAX_VALUE, 1}, {1, Integer.MAX_VALUE}, {1, Integer.MIN_VALUE}};
        for (int[] w : wrong) {
            expect.refused("rule(" + w[0] + ", " + w[1] + ")", IllegalArgumentException.class, Gases::busy,
                    g -> g.rule(w[0], w[1]));
        }
    }
}

/** Terms: the rule, line by line, with what comes behind kind 5 and before kind 0 written out. */
public final class TermsRuleTest {
    private static final int[] PAIRS = {9, 18, 36};
    private static final int[] FOURS = {54, 45, 27};
    /** d alone, and d - 1 with d + 1, for d = 0 .. 5. */
    private static final int[] ONES = {1, 2, 4, 8, 16, 32};
    private static final int[] SIDES = {34, 5, 10, 20, 40, 17};

    public static void main(String[] args) {
        Expect expect = new Expect();
        expect.sentence("Terms", "THE RULE says for bits and a SENSE (0 or 1) what they become; kinds + 1 and so on "
                + "are meant modulo 6, FLYING are the kinds 0 .. 5:",
                TermsRuleTest::modulo);
        expect.sentence("Terms", "flying are just d and d + 3, or all but d and d + 3: each flying kind k becomes k "
                + "+ 1 (sense 0) or k - 1 (sense 1); kind 6 stays.",
                TermsRuleTest::pairs);
        expect.sentence("Terms", "flying are just 0, 2 and 4, or just 1, 3 and 5: these become the others; kind 6 "
                + "stays.",
                TermsRuleTest::triples);
        expect.sentence("Terms", "flying is just d, and kind 6 is there: they become d - 1 and d + 1, without kind 6.",
                TermsRuleTest::oneAndRest);
        expect.sentence("Terms", "Flying are just d - 1 and d + 1, and kind 6 is not there: they become d and kind 6.",
                TermsRuleTest::sides);
        expect.sentence("Terms", "All other bits stay.",
                TermsRuleTest::others);
        expect.end();
    }

    private static void modulo(Expect expect) {
        SixWayGas gas = new SixWayGas(4, 4);
        expect.equal("2 and 5, sense 0: 5 becomes 0", gas.rule(36, 0), 9);
        expect.equal("0 and 3, sense 1: 0 becomes 5", gas.rule(9, 1), 36);
        expect.equal("0 and 6 become 5 and 1", gas.rule(65, 0), 34);
        expect.equal("5 and 6 become 4 and 0", gas.rule(96, 1), 17);
        expect.equal("6 is not flying: 0, 3 and 6, sense 0", gas.rule(73, 0), 82);
        expect.equal("5 is flying, 6 is not: 6 alone", gas.rule(64, 0), 64);
        for (int sense : new int[] {-1, 2}) {
            expect.refused("sense " + sense, IllegalArgumentException.class, Gases::busy, g -> g.rule(9, sense));
        }
    }

    private static void pairs(Expect expect) {
        SixWayGas gas = new SixWayGas(4, 4);
        for (int d = 0; d < 3; d++) {
            for (int rest = 0; rest <= 64; rest += 64) {
                String what = d + " and " + (d + 3) + (rest > 0 ? " and 6" : "");
                expect.equal(what + ", sense 0", gas.rule(PAIRS[d] | rest, 0), PAIRS[(d + 1) % 3] | rest);
                expect.equal(what + ", sense 1", gas.rule(PAIRS[d] | rest, 1), PAIRS[(d + 2) % 3] | rest);
                expect.equal("all but " + what + ", sense 0", gas.rule(FOURS[d] | rest, 0), FOURS[(d + 1) % 3] | rest);
                expect.equal("all but " + what + ", sense 1", gas.rule(FOURS[d] | rest, 1), FOURS[(d + 2) % 3] | rest);
            }
        }
    }

    private static void triples(Expect expect) {
        SixWayGas gas = new SixWayGas(4, 4);
        for (int sense = 0; sense <= 1; sense++) {
            expect.equal("0, 2 and 4, sense " + sense, gas.rule(21, sense), 42);
            expect.equal("1, 3 and 5, sense " + sense, gas.rule(42, sense), 21);
            expect.equal("0, 2, 4 and 6, sense " + sense, gas.rule(85, sense), 106);
            expect.equal("1, 3, 5 and 6, sense " + sense, gas.rule(106, sense), 85);
        }
    }

    private static void oneAndRest(Expect expect) {
        SixWayGas gas = new SixWayGas(4, 4);
        for (int d = 0; d < 6; d++) {
            for (int sense = 0; sense <= 1; sense++) {
                expect.equal(d + " and 6, sense " + sense, gas.rule(ONES[d] | 64, sense), SIDES[d]);
                expect.equal(d + " without 6, sense " + sense, gas.rule(ONES[d], sense), ONES[d]);
            }
        }
    }

    private static void sides(Expect expect) {
        SixWayGas gas = new SixWayGas(4, 4);
        for (int d = 0; d < 6; d++) {
            for (int sense = 0; sense <= 1; sense++) {
                expect.equal("beside " + d + ", sense " + sense, gas.rule(SIDES[d], sense), ONES[d] | 64);
                expect.equal("beside " + d + " with 6, sense " + sense, gas.rule(SIDES[d] | 64, sense), SIDES[d] | 64);
            }
        }
    }

    private static boolean isOneOf(int bits, int[] some) {
        for (int one : some) {
            if (one == bits) {
                return true;
            }
        }
        return false;
    }

    private static boolean isNamed(int bits) {
        int flying = bits & 63;
        boolean always = isOneOf(flying, PAIRS) || isOneOf(flying, FOURS) || flying == 21 || flying == 42;
        return always || isOneOf(flying, bits < 64 ? SIDES : ONES);
    }

    private static void others(Expect expect) {
        SixWayGas gas = new SixWayGas(4, 4);
        int staying = 0;
        for (int bits = 0; bits <= 127; bits++) {
            for (int sense = 0; sense <= 1; sense++) {
                boolean stays = gas.rule(bits, sense) == bits;
                expect.equal("bits " + bits + ", sense " + sense + " stay", stays, !isNamed(bits));
            }
            staying += isNamed(bits) ? 0 : 1;
        }
        // 6 pairs and fours, 2 triples, each with and without kind 6, and 6 of the last two sorts each.
        expect.equal("how many stay", staying, 128 - 16 - 12);
        expect.equal("none", gas.rule(0, 0), 0);
        expect.equal("all", gas.rule(127, 1), 127);
    }
}

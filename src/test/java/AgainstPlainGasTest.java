import java.util.Random;

/** Runs of many calls, right and wrong ones, on the program and on PlainGas: every answer is compared. */
public final class AgainstPlainGasTest {
    private static final int RUNS = 600;
    private static final int CALLS = 160;

    private final Random random;
    private final boolean onlyWalls;
    private final SixWayGas gas;
    private final PlainGas plain;

    private AgainstPlainGasTest(int run) {
        // Seeded by the run's number, so that a run can be made again.
        random = new Random(run);
        onlyWalls = run % 3 == 0;
        int w = random.nextInt(6) == 0 ? random.nextInt(40) - 10 : 4 + 2 * random.nextInt(run % 10 == 0 ? 7 : 3);
        int h = random.nextInt(6) == 0 ? random.nextInt(40) - 10 : 4 + 2 * random.nextInt(run % 10 == 0 ? 7 : 3);
        gas = new SixWayGas(w, h);
        plain = new PlainGas(w, h);
    }

    private interface Answer {
        int get();
    }

    private static String told(Answer answer) {
        try {
            return Integer.toString(answer.get());
        } catch (RuntimeException e) {
            return "throws." + e.getClass().getSimpleName();
        }
    }

    private int near(int bound) {
        return random.nextInt(25) == 0 ? random.nextInt(bound + 4) - 2 : random.nextInt(bound);
    }

    private int oneOf(int... some) {
        return some[random.nextInt(some.length)];
    }

    private static int none(Runnable call) {
        call.run();
        return 0;
    }

    private static int number(boolean answer) {
        return answer ? 1 : 0;
    }

    private void call(Expect expect, String before) {
        int x = near(plain.w);
        int y = near(plain.h);
        boolean on = random.nextInt(4) != 0;
        switch (random.nextInt(24)) {
            case 0, 1, 2, 3 -> {
                int bits = random.nextInt(20) == 0 ? oneOf(-1, 128) : random.nextInt(128);
                compare(expect, before + "set", () -> none(() -> gas.set(x, y, bits)), () -> none(() -> plain.set(x, y, bits)));
            }
            case 4 -> compare(expect, before + "wall", () -> number(gas.wall(x, y, on)), () -> number(plain.put(x, y, 1, on)));
            case 5 -> {
                int rate = onlyWalls ? 0 : oneOf(0, 0, 1, 10, 100, 256, -1, 257);
                compare(expect, before + "source", () -> none(() -> gas.source(x, y, rate)),
                        () -> none(() -> plain.source(x, y, rate)));
            }
            case 6 -> {
                boolean put = on && !onlyWalls && random.nextBoolean();
                compare(expect, before + "sink", () -> number(gas.sink(x, y, put)), () -> number(plain.put(x, y, 3, put)));
            }
            case 7, 8 -> {
                boolean put = on && !onlyWalls;
                compare(expect, before + "body", () -> number(gas.body(x, y, put)), () -> number(plain.put(x, y, 4, put)));
            }
            case 9 -> {
                int m = oneOf(0, 1, 1, 2, 3, 5, 8, 10000, 10001);
                compare(expect, before + "mass", () -> none(() -> gas.mass(m)), () -> none(() -> plain.mass(m)));
            }
            case 10 -> {
                int s = random.nextInt();
                compare(expect, before + "seed", () -> none(() -> gas.seed(s)), () -> none(() -> plain.seed(s)));
            }
            case 11, 12, 13, 14 -> {
                int n = oneOf(-1, 0, 1, 1, 1, 1, 2, 2, 3, 5, 7, 64, 65);
                int fewer = n == 64 && plain.w * plain.h > 40 ? 9 : n;
                compare(expect, before + "step " + fewer, () -> gas.step(fewer), () -> plain.step(fewer));
            }
            case 15, 16 -> {
                int n = oneOf(-1, 0, 1, 1, 1, 2, 3, 4, 65);
                compare(expect, before + "back " + n, () -> gas.back(n), () -> plain.back(n));
            }
            case 17 -> {
                int w = near(plain.w + 2);
                int h = near(plain.h + 2);
                int field = near(3);
                compare(expect, before + "sum", () -> gas.sum(x, y, w, h, field), () -> plain.sum(x, y, w, h, field));
            }
            case 18, 19, 20 -> {
                int kind = near(7);
                compare(expect, before + "mark", () -> gas.mark(x, y, kind), () -> plain.mark(x, y, kind));
            }
            case 21 -> {
                int mark = near(4);
                compare(expect, before + "marked", () -> gas.marked(mark), () -> plain.marked(mark));
            }
            case 22 -> {
                int kind = near(4);
                int field = near(3);
                compare(expect, before + "book", () -> gas.book(kind, field), () -> plain.book(kind, field));
            }
            default -> {
                int field = near(3);
                compare(expect, before + "account", () -> gas.account(field), () -> plain.account(field));
            }
        }
    }

    private static void compare(Expect expect, String what, Answer got, Answer due) {
        expect.same(what, told(got), told(due));
    }

    private void compareAll(Expect expect, String before) {
        for (int y = 0; y < plain.h; y++) {
            for (int x = 0; x < plain.w; x++) {
                String what = before + "(" + x + ", " + y + ")";
                expect.equal(what + " bits", gas.get(x, y), plain.get(x, y));
                expect.equal(what + " edge", gas.edge(x, y), plain.edge(x, y));
            }
        }
        for (int kind = 0; kind < 4; kind++) {
            for (int field = 0; field < 3; field++) {
                expect.equal(before + "book", gas.book(kind, field), plain.book(kind, field));
            }
            int mark = kind;
            compare(expect, before + "marked " + mark, () -> gas.marked(mark), () -> plain.marked(mark));
        }
        for (int field = 0; field < 3; field++) {
            expect.equal(before + "account", gas.account(field), plain.account(field));
        }
        expect.equal(before + "check", gas.check(), plain.check());
    }

    public static void main(String[] args) {
        Expect expect = new Expect();
        int moves = 0;
        for (int run = 0; run < RUNS; run++) {
            AgainstPlainGasTest test = new AgainstPlainGasTest(run);
            for (int call = 0; call < CALLS; call++) {
                String before = "run " + run + ", call " + call + ": ";
                test.call(expect, before);
                if (call % 8 == 7) {
                    test.compareAll(expect, before);
                }
            }
            moves += test.plain.account(2);
        }
        expect.equal("the runs move the body often", moves > RUNS, true);
        expect.end();
    }
}

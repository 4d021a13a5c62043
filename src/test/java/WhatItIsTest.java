import java.util.Random;
import java.util.TreeSet;

/** "What it is": the document's first sentence, part by part; the second one is LongUseTest's. */
public final class WhatItIsTest {
    public static void main(String[] args) {
        Expect expect = new Expect();
        expect.sentence("What it is", "A gas of particles on a grid in which every cell has six neighbours:",
                WhatItIsTest::sixNeighbours);
        expect.sentence("What it is", "particles fly, meet and turn, bounce off walls and off a rigid body that they "
                + "push, come from sources and go into sinks;",
                WhatItIsTest::flyMeetAndTurn, WhatItIsTest::bounce, WhatItIsTest::pushedAndRigid,
                WhatItIsTest::comeAndGo);
        expect.sentence("What it is", "what is there, what was given and what was taken balance at every step;",
                WhatItIsTest::balance, WhatItIsTest::bodyBalance);
        expect.sentence("What it is", "steps can be taken back, and marked particles are followed.",
                WhatItIsTest::takenBack, WhatItIsTest::followed);
        expect.end();
    }

    /** From each cell one particle goes into each of six other cells, and into each cell they come from six. */
    private static void sixNeighbours(Expect expect) {
        int[][] sizes = {{4, 4}, {4, 16}, {16, 4}, {6, 10}};
        for (int[] size : sizes) {
            int[] comings = new int[size[0] * size[1]];
            for (int cell = 0; cell < comings.length; cell++) {
                SixWayGas gas = new SixWayGas(size[0], size[1]);
                gas.set(cell % size[0], cell / size[0], 63);
                gas.step(1);
                TreeSet<Integer> reached = new TreeSet<>();
                for (int to = 0; to < comings.length; to++) {
                    if (gas.get(to % size[0], to / size[0]) != 0) {
                        reached.add(to);
                        comings[to]++;
                    }
                }
                expect.equal("cells reached", reached.size(), 6);
                expect.equal("itself", reached.contains(cell), false);
            }
            for (int coming : comings) {
                expect.equal("cells from which one is reached", coming, 6);
            }
        }
    }

    private static void flyMeetAndTurn(Expect expect) {
        SixWayGas gas = new SixWayGas(8, 8);
        gas.set(1, 4, 1);
        gas.set(5, 4, 8);
        gas.step(2);
        expect.equal("both flew into (3, 4)", gas.get(3, 4), 9);
        gas.step(1);
        // x + y + time is 9: sense 1, so that 0 and 3 become 5 and 2.
        expect.equal("one turned to 5", gas.get(3, 5), 32);
        expect.equal("the other to 2", gas.get(2, 3), 4);
        expect.equal("there are no others", gas.sum(0, 0, 8, 8, 0), 2);
    }

    private static void bounce(Expect expect) {
        for (int sort = 1; sort <= 4; sort += 3) {
            for (int kind = 0; kind < 6; kind++) {
                SixWayGas gas = new SixWayGas(8, 8);
                int[] edge = {4, 3};
                int[] from = Six.whence(8, 8, edge, kind);
                Gases.putEdge(gas, edge[0], edge[1], sort);
                gas.set(from[0], from[1], 1 << kind);
                gas.step(1);
                expect.equal("kind " + kind + " turns in edge " + sort, gas.get(4, 3), Six.bounced(1 << kind));
                gas.step(1);
                expect.equal("and comes back", gas.get(from[0], from[1]), Six.bounced(1 << kind));
            }
        }
    }

    /** A step leaves the body where it is, or brings each of its cells to the neighbour by one direction. */
    private static void pushedAndRigid(Expect expect) {
        int[][][] shapes = {{{3, 3}}, {{3, 3}, {4, 3}, {3, 4}}, {{0, 0}, {7, 5}, {4, 2}}, {{2, 1}, {2, 2}, {2, 3}, {3, 3}}};
        TreeSet<Integer> ways = new TreeSet<>();
        for (int[][] shape : shapes) {
            for (int seed = 1; seed <= 6; seed++) {
                SixWayGas gas = randomGas(new Random(seed), 0);
                for (int[] cell : shape) {
                    gas.body(cell[0], cell[1], true);
                }
                gas.mass(2);
                // Few steps, as each is read with 48 calls.
                for (int i = 0; i < 7; i++) {
                    TreeSet<Integer> before = bodyCells(gas);
                    int moved = gas.account(2);
                    gas.step(1);
                    TreeSet<Integer> after = bodyCells(gas);
                    int way = wayOf(before, after);
                    if (gas.account(2) == moved) {
                        expect.same("not moved", after.toString(), before.toString());
                    } else {
                        expect.equal("moved by one direction from " + before + " to " + after, way >= 0, true);
                        ways.add(way);
                    }
                }
            }
        }
        expect.same("directions that were seen", ways.toString(), "[0, 1, 2, 3, 4, 5]");
    }

    private static int wayOf(TreeSet<Integer> before, TreeSet<Integer> after) {
        for (int direction = 0; direction < 6; direction++) {
            TreeSet<Integer> moved = new TreeSet<>();
            for (int cell : before) {
                int[] to = Six.neighbour(8, 6, new int[] {cell % 8, cell / 8}, direction);
                moved.add(to[1] * 8 + to[0]);
            }
            if (moved.equals(after)) {
                return direction;
            }
        }
        return -1;
    }

    private static TreeSet<Integer> bodyCells(SixWayGas gas) {
        TreeSet<Integer> cells = new TreeSet<>();
        for (int cell = 0; cell < 48; cell++) {
            if (gas.edge(cell % 8, cell / 8) == 4) {
                cells.add(cell);
            }
        }
        return cells;
    }

    private static void comeAndGo(Expect expect) {
        SixWayGas gas = new SixWayGas(8, 8);
        gas.source(0, 3, 256);
        gas.step(1);
        expect.equal("a source gives", gas.sum(0, 0, 8, 8, 0), 7);
        gas.source(0, 3, 0);
        gas.sink(0, 3, true);
        gas.step(1);
        expect.equal("a sink takes the resting one, the others flew off", gas.sum(0, 0, 8, 8, 0), 6);
        SixWayGas passed = new SixWayGas(8, 8);
        passed.sink(6, 2, true);
        passed.set(3, 2, 1);
        passed.set(3, 3, 1);
        passed.step(2);
        expect.equal("both are there", passed.sum(0, 0, 8, 8, 0), 2);
        passed.step(1);
        expect.equal("one came into the sink", passed.sum(0, 0, 8, 8, 0), 1);
        expect.equal("the other flew past it", passed.get(6, 3), 1);
    }

    /** 8 x 6, each cell with some bits; of ten cells one or so is an edge of the sorts 1 .. highest. */
    private static SixWayGas randomGas(Random random, int highest) {
        SixWayGas gas = new SixWayGas(8, 6);
        for (int cell = 0; cell < 48; cell++) {
            gas.set(cell % 8, cell / 8, random.nextInt(128) & random.nextInt(128));
            if (highest > 0 && random.nextInt(10) == 0) {
                Gases.putEdge(gas, cell % 8, cell / 8, 1 + random.nextInt(highest));
            }
        }
        gas.mass(3);
        gas.seed(random.nextInt());
        return gas;
    }

    private static int given(SixWayGas gas, int field) {
        return gas.book(0, field) + gas.book(1, field) + gas.book(2, field) + gas.book(3, field);
    }

    /** Also behind steps that are taken back, where there are walls only. */
    private static void balance(Expect expect) {
        for (int seed = 1; seed <= 40; seed++) {
            boolean wallsOnly = seed % 2 == 0;
            SixWayGas gas = randomGas(new Random(seed), wallsOnly ? 1 : 4);
            int[] put = new int[3];
            for (int field = 0; field < 3; field++) {
                put[field] = gas.sum(0, 0, 8, 6, field);
            }
            for (int i = 0; i < 20; i++) {
                int time = wallsOnly && i >= 8 ? gas.back(1) : gas.step(1);
                for (int field = 0; field < 3; field++) {
                    expect.equal("run " + seed + ", time " + time + ", field " + field,
                            gas.sum(0, 0, 8, 6, field), put[field] + given(gas, field));
                }
                expect.equal("walls give and take no particle", gas.book(0, 0), 0);
                expect.equal("nor does the body", gas.book(3, 0), 0);
                expect.equal("a source never takes", gas.book(1, 0) >= 0, true);
                expect.equal("a sink never gives", gas.book(2, 0) <= 0, true);
            }
        }
    }

    /** What the body got is in its account, but for mass * momentum of the directions by which it moved. */
    private static void bodyBalance(Expect expect) {
        int moves = 0;
        for (int seed = 1; seed <= 20; seed++) {
            SixWayGas gas = randomGas(new Random(seed), 4);
            int[] owed = new int[2];
            for (int i = 0; i < 20; i++) {
                int moved = gas.account(2);
                gas.step(1);
                int p = -gas.book(3, 1) - gas.account(0);
                int q = -gas.book(3, 2) - gas.account(1);
                boolean paid = gas.account(2) == moved ? p == owed[0] && q == owed[1] : isOneMove(p - owed[0], q - owed[1]);
                expect.equal("run " + seed + ", step " + i + ": what it paid is for its move", paid, true);
                owed[0] = p;
                owed[1] = q;
            }
            moves += gas.account(2);
        }
        expect.equal("bodies moved", moves > 20, true);
    }

    private static boolean isOneMove(int p, int q) {
        for (int direction = 0; direction < 6; direction++) {
            if (p == 3 * Six.P[direction] && q == 3 * Six.Q[direction]) {
                return true;
            }
        }
        return false;
    }

    private static void takenBack(Expect expect) {
        for (int seed = 1; seed <= 20; seed++) {
            SixWayGas gas = randomGas(new Random(seed), 1);
            String before = State.of(gas);
            gas.step(seed);
            gas.back(seed);
            expect.same("run " + seed + ", as before", State.of(gas), before);
            SixWayGas other = randomGas(new Random(seed), 1);
            other.back(seed);
            other.step(seed);
            expect.same("run " + seed + ", back and forth", State.of(other), before);
        }
    }

    /** Marks are always on particles that are there, no two on one; and are lost only where a sink can take them. */
    private static void followed(Expect expect) {
        for (int seed = 1; seed <= 20; seed++) {
            Random random = new Random(seed);
            boolean sinks = seed % 2 == 0;
            SixWayGas gas = randomGas(random, sinks ? 4 : 2);
            gas.set(3, 3, 127);
            for (int kind = 0; kind < 4; kind++) {
                gas.mark(3, 3, kind);
            }
            for (int i = 0; i < 30; i++) {
                gas.step(1);
                TreeSet<Integer> places = new TreeSet<>();
                for (int mark = 0; mark < 4; mark++) {
                    int place = gas.marked(mark);
                    if (place == SixWayGas.NONE) {
                        expect.equal("lost without a sink", sinks, true);
                    } else {
                        expect.equal("no two on one", places.add(place), true);
                        int there = gas.get(place % 128 / 8, place / 128) >> place % 8 & 1;
                        expect.equal("mark " + mark + "'s particle is there", there, 1);
                    }
                }
            }
        }
    }
}

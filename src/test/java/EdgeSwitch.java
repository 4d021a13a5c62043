/** What wall, sink and body have in common: a cell becomes an edge or ceases to be one. */
final class EdgeSwitch {
    interface Switch {
        boolean put(SixWayGas gas, int x, int y, boolean on);
    }

    private final String name;
    private final int sort;
    private final Switch call;

    EdgeSwitch(String name, int sort, Switch call) {
        this.name = name;
        this.sort = sort;
        this.call = call;
    }

    void onAndOff(Expect expect) {
        inTheMiddle(expect);
        everyCell(expect);
    }

    private void inTheMiddle(Expect expect) {
        SixWayGas gas = new SixWayGas(8, 8);
        gas.set(3, 4, 77);
        gas.mark(3, 4, 2);
        expect.equal(name + " off, none there", call.put(gas, 3, 4, false), false);
        expect.equal("edge", gas.edge(3, 4), 0);
        expect.equal(name + " on", call.put(gas, 3, 4, true), true);
        expect.equal("edge", gas.edge(3, 4), sort);
        expect.equal(name + " on again", call.put(gas, 3, 4, true), false);
        expect.equal("edge", gas.edge(3, 4), sort);
        expect.equal("the particles stay", gas.get(3, 4), 77);
        expect.equal("the mark stays", gas.marked(0), 4 * 128 + 3 * 8 + 2);
        expect.equal("the neighbour is none", gas.edge(4, 4), 0);
        expect.equal(name + " off", call.put(gas, 3, 4, false), true);
        expect.equal("edge", gas.edge(3, 4), 0);
        expect.equal(name + " off again", call.put(gas, 3, 4, false), false);
    }

    /** From the first cell to the last one, until all are, and off again. */
    private void everyCell(Expect expect) {
        SixWayGas gas = new SixWayGas(4, 6);
        for (boolean on : new boolean[] {true, false}) {
            for (int i = 0; i < 24; i++) {
                String what = name + " " + on + " " + Six.at(i % 4, i / 4);
                expect.equal(what + " is new", call.put(gas, i % 4, i / 4, on), true);
                expect.equal(what + " is not new", call.put(gas, i % 4, i / 4, on), false);
                expect.equal(what + ": edge", gas.edge(i % 4, i / 4), on ? sort : 0);
                expect.equal(what + ": the last one", gas.edge(3, 5), on == (i == 23) ? sort : 0);
            }
        }
    }

    void refusedForNoCell(Expect expect) {
        NoCell.refusedEverywhere(expect, name + " on", (g, x, y) -> call.put(g, x, y, true));
        NoCell.refusedEverywhere(expect, name + " off", (g, x, y) -> call.put(g, x, y, false));
    }

    void refusedOnOtherEdges(Expect expect) {
        for (int other = 1; other <= 4; other++) {
            if (other != sort) {
                int there = other;
                for (boolean on : new boolean[] {true, false}) {
                    expect.refused(name + " " + on + " on edge " + other, IllegalStateException.class,
                            () -> withEdge(there), g -> call.put(g, 2, 1, on));
                }
            }
        }
    }

    static SixWayGas withEdge(int sort) {
        SixWayGas gas = new SixWayGas(6, 6);
        gas.set(0, 1, 1);
        gas.set(4, 4, 127);
        Gases.putEdge(gas, 2, 1, sort);
        return gas;
    }
}

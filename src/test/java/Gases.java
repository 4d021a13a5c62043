/** Gases that several tests begin with. */
final class Gases {
    private Gases() {
    }

    /** 8 x 6 with every sort of edge, particles, marks (one lost), a light body, and 3 steps made. */
    static SixWayGas busy() {
        SixWayGas gas = new SixWayGas(8, 6);
        gas.wall(0, 0, true);
        gas.source(4, 0, 90);
        gas.sink(0, 4, true);
        gas.body(4, 3, true);
        gas.body(5, 3, true);
        gas.mass(2);
        gas.seed(7);
        gas.set(1, 1, 9);
        gas.set(2, 2, 65);
        gas.set(7, 3, 8);
        gas.set(3, 5, 127);
        gas.mark(1, 1, 0);
        gas.mark(2, 2, 6);
        gas.step(3);
        gas.set(6, 1, 5);
        gas.mark(6, 1, 2);
        gas.set(6, 1, 5);
        return gas;
    }

    /** 6 x 4 with walls as the only edges, one at (2, 1), particles and a mark, at time 0. */
    static SixWayGas walled() {
        SixWayGas gas = new SixWayGas(6, 4);
        gas.wall(2, 1, true);
        gas.wall(2, 2, true);
        gas.set(4, 1, 8);
        gas.set(0, 2, 1);
        gas.set(3, 0, 127);
        gas.set(5, 3, 65);
        gas.set(2, 1, 21);
        gas.mark(3, 0, 4);
        return gas;
    }

    static SixWayGas filled(int w, int h, int bits) {
        SixWayGas gas = new SixWayGas(w, h);
        for (int y = 0; y < h; y++) {
            for (int x = 0; x < w; x++) {
                gas.set(x, y, bits);
            }
        }
        return gas;
    }

    /** Makes a cell an edge of that sort (1 .. 4); a source gets rate 128. */
    static void putEdge(SixWayGas gas, int x, int y, int sort) {
        switch (sort) {
            case 1 -> gas.wall(x, y, true);
            case 2 -> gas.source(x, y, 128);
            case 3 -> gas.sink(x, y, true);
            default -> gas.body(x, y, true);
        }
    }

    static void takeEdge(SixWayGas gas, int x, int y, int sort) {
        switch (sort) {
            case 1 -> gas.wall(x, y, false);
            case 2 -> gas.source(x, y, 0);
            case 3 -> gas.sink(x, y, false);
            default -> gas.body(x, y, false);
        }
    }

    /** Every cell an edge of that sort. */
    static void putEdges(SixWayGas gas, int w, int h, int sort) {
        for (int y = 0; y < h; y++) {
            for (int x = 0; x < w; x++) {
                putEdge(gas, x, y, sort);
            }
        }
    }
}

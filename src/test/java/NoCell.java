/** The places round the busy gas of 8 x 6 that are no cells. */
final class NoCell {
    interface CellCall {
        void on(SixWayGas gas, int x, int y);
    }

    private static final int[][] PLACES = {{-1, 0}, {-1, 1}, {-1, 5}, {8, 0}, {8, 4}, {8, 5}, {0, -1}, {7, -1}, {0, 6},
        {7, 6}, {8, 6}, {-1, -1}, {16, 3}, {3, 12}, {Integer.MAX_VALUE, 0}, {0, Integer.MAX_VALUE}, {Integer.MIN_VALUE, 2},
        {2, Integer.MIN_VALUE}};

    private NoCell() {
    }

    static void refusedEverywhere(Expect expect, String name, CellCall call) {
        for (int[] place : PLACES) {
            String what = name + " for (" + place[0] + ", " + place[1] + ")";
            expect.refused(what, IndexOutOfBoundsException.class, Gases::busy, g -> call.on(g, place[0], place[1]));
        }
    }
}

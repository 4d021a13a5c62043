/** All that can be read of a gas, as a text; with few calls, as an object is promised for 512 only. */
final class State {
    private State() {
    }

    static String of(SixWayGas gas) {
        StringBuilder text = new StringBuilder();
        text.append("time ").append(gas.step(0)).append(" check ").append(gas.check());
        int width = width(gas);
        int height = height(gas);
        for (int y = 0; y < height; y++) {
            for (int x = 0; x < width; x++) {
                int bits = gas.get(x, y);
                int edge = gas.edge(x, y);
                if (bits != 0 || edge != 0) {
                    text.append(" (").append(x).append(',').append(y).append(' ');
                    text.append(edge).append(':').append(bits).append(')');
                }
            }
        }
        for (int kind = 0; kind < 4; kind++) {
            for (int field = 0; field < 3; field++) {
                text.append(field == 0 ? " book " : "/").append(gas.book(kind, field));
            }
        }
        text.append(" account ").append(gas.account(0)).append('/').append(gas.account(1));
        text.append(" moved ").append(gas.account(2)).append(" marks");
        appendMarks(text, gas);
        return text.toString();
    }

    static int width(SixWayGas gas) {
        int x = 0;
        while (x < 100 && isCell(gas, x, 0)) {
            x++;
        }
        return x;
    }

    static int height(SixWayGas gas) {
        int y = 0;
        while (y < 100 && isCell(gas, 0, y)) {
            y++;
        }
        return y;
    }

    private static boolean isCell(SixWayGas gas, int x, int y) {
        try {
            gas.get(x, y);
            return true;
        } catch (IndexOutOfBoundsException e) {
            return false;
        }
    }

    private static void appendMarks(StringBuilder text, SixWayGas gas) {
        try {
            for (int mark = 0; mark < 100; mark++) {
                int place = gas.marked(mark);
                text.append(' ').append(place);
            }
        } catch (IndexOutOfBoundsException e) {
            // That was the last one.
        }
    }
}

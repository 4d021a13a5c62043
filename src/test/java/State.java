/** All that can be read of a gas, as a text. */
final class State {
    private State() {
    }

    static String of(SixWayGas gas) {
        StringBuilder text = new StringBuilder();
        text.append("time ").append(gas.step(0)).append(" check ").append(gas.check());
        for (int y = 0; y < height(gas); y++) {
            for (int x = 0; x < width(gas); x++) {
                if (gas.get(x, y) != 0 || gas.edge(x, y) != 0) {
                    text.append(" (").append(x).append(',').append(y).append(' ');
                    text.append(gas.edge(x, y)).append(':').append(gas.get(x, y)).append(')');
                }
            }
        }
        for (int kind = 0; kind < 4; kind++) {
            for (int field = 0; field < 3; field++) {
                text.append(field == 0 ? " book " : "/").append(gas.book(kind, field));
            }
        }
        text.append(" account ").append(gas.account(0)).append('/').append(gas.account(1));
        text.append(" moved ").append(gas.account(2)).append(" marks");
        for (int mark = 0; mark < marks(gas); mark++) {
            text.append(' ').append(gas.marked(mark));
        }
        return text.toString();
    }

    static int width(SixWayGas gas) {
        int x = 0;
        while (x < 100 && isCell(gas, x, 0)) {
            x++;
        }
        return x;
    }

    static int height(SixWayGas gas) {
        int y = 0;
        while (y < 100 && isCell(gas, 0, y)) {
            y++;
        }
        return y;
    }

    private static boolean isCell(SixWayGas gas, int x, int y) {
        try {
            gas.get(x, y);
            return true;
        } catch (IndexOutOfBoundsException e) {
            return false;
        }
    }

    private static int marks(SixWayGas gas) {
        int count = 0;
        try {
            while (count < 100) {
                gas.marked(count);
                count++;
            }
        } catch (IndexOutOfBoundsException e) {
            return count;
        }
        return count;
    }
}

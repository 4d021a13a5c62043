/** Directions, momenta and neighbours, as the document's "Terms" give them. */
final class Six {
    static final int[] P = {1, 0, -1, -1, 0, 1, 0};
    static final int[] Q = {0, 1, 1, 0, -1, -1, 0};

    private Six() {
    }

    static int[] neighbour(int w, int h, int[] of, int direction) {
        int x = of[0];
        int y = of[1];
        boolean even = y % 2 == 0;
        int[] to = switch (direction) {
            case 0 -> new int[] {x + 1, y};
            case 1 -> new int[] {even ? x : x + 1, y - 1};
            case 2 -> new int[] {even ? x - 1 : x, y - 1};
            case 3 -> new int[] {x - 1, y};
            case 4 -> new int[] {even ? x - 1 : x, y + 1};
            default -> new int[] {even ? x : x + 1, y + 1};
        };
        return new int[] {(to[0] + w) % w, (to[1] + h) % h};
    }

    /** The cell from which a particle of that kind flies into a cell. */
    static int[] whence(int w, int h, int[] into, int kind) {
        return neighbour(w, h, into, (kind + 3) % 6);
    }

    static int along(int direction, int p, int q) {
        int[] all = {2 * p + q, p + 2 * q, q - p, -2 * p - q, -p - 2 * q, p - q};
        return all[direction];
    }

    /** What marked answers for a mark there. */
    static int place(int x, int y, int kind) {
        return 128 * y + 8 * x + kind;
    }

    /** Each flying kind k made k + 3. */
    static int bounced(int bits) {
        int after = bits & 64;
        for (int kind = 0; kind < 6; kind++) {
            after |= (bits >> kind & 1) << (kind + 3) % 6;
        }
        return after;
    }

    static String at(int x, int y) {
        return "(" + x + ", " + y + ")";
    }
}

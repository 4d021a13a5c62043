import java.util.ArrayList;
import java.util.List;
import java.util.NoSuchElementException;
import java.util.TreeSet;

/**
 * The document read word by word, as slowly as it likes: particles are objects in a list, books are
 * differences of the whole grid's sums, and a step back looks for the bits by trying all of them.
 */
final class PlainGas {
    private static final class Particle {
        int x;
        int y;
        int kind;
        int mark = -1;

        Particle(int x, int y, int kind) {
            this.x = x;
            this.y = y;
            this.kind = kind;
        }
    }

    private static final int[][] MOMENTUM = {{1, 0}, {0, 1}, {-1, 1}, {-1, 0}, {0, -1}, {1, -1}, {0, 0}};

    final int w;
    final int h;
    private List<Particle> particles = new ArrayList<>();
    private final List<Particle> marked = new ArrayList<>();
    private final int[][] edge;
    private final int[][] rate;
    private final int[][] book = new int[4][3];
    private final int[] account = new int[3];
    private int mass = 100;
    private int seed = 0;
    private int time = 0;

    PlainGas(int w, int h) {
        this.w = w < 4 || w > 16 || w % 2 != 0 ? 8 : w;
        this.h = h < 4 || h > 16 || h % 2 != 0 ? 8 : h;
        edge = new int[this.h][this.w];
        rate = new int[this.h][this.w];
    }

    void set(int x, int y, int bits) {
        cell(x, y);
        argument(bits >= 0 && bits <= 127);
        for (Particle p : in(x, y)) {
            lose(p);
        }
        for (int kind = 0; kind < 7; kind++) {
            if ((bits & 1 << kind) != 0) {
                particles.add(new Particle(x, y, kind));
            }
        }
    }

    int get(int x, int y) {
        cell(x, y);
        int bits = 0;
        for (Particle p : in(x, y)) {
            bits += 1 << p.kind;
        }
        return bits;
    }

    int rule(int bits, int sense) {
        argument(bits >= 0 && bits <= 127);
        argument(sense == 0 || sense == 1);
        TreeSet<Integer> flying = new TreeSet<>();
        for (int kind = 0; kind < 6; kind++) {
            if ((bits & 1 << kind) != 0) {
                flying.add(kind);
            }
        }
        boolean rest = bits >= 64;
        for (int d = 0; d < 6; d++) {
            if (flying.equals(kinds(d, d + 3)) || flying.equals(allBut(d, d + 3))) {
                TreeSet<Integer> after = new TreeSet<>();
                for (int kind : flying) {
                    after.add((kind + (sense == 0 ? 1 : 5)) % 6);
                }
                return bitsOf(after, rest);
            }
            if (rest && flying.equals(kinds(d))) {
                return bitsOf(kinds(d + 5, d + 1), false);
            }
            if (!rest && flying.equals(kinds(d + 5, d + 1))) {
                return bitsOf(kinds(d), true);
            }
        }
        if (flying.equals(kinds(0, 2, 4))) {
            return bitsOf(kinds(1, 3, 5), rest);
        }
        if (flying.equals(kinds(1, 3, 5))) {
            return bitsOf(kinds(0, 2, 4), rest);
        }
        return bits;
    }

    boolean put(int x, int y, int sort, boolean on) {
        cell(x, y);
        if (edge[y][x] != 0 && edge[y][x] != sort) {
            throw new IllegalStateException();
        }
        int before = edge[y][x];
        edge[y][x] = on ? sort : 0;
        return before != edge[y][x];
    }

    void source(int x, int y, int newRate) {
        cell(x, y);
        argument(newRate >= 0 && newRate <= 256);
        put(x, y, 2, newRate != 0);
        rate[y][x] = newRate;
    }

    int edge(int x, int y) {
        cell(x, y);
        return edge[y][x];
    }

    void mass(int m) {
        argument(m >= 1 && m <= 10000);
        mass = m;
    }

    int account(int field) {
        argument(field >= 0 && field <= 2);
        return account[field];
    }

    void seed(int s) {
        seed = s;
    }

    int step(int n) {
        argument(n >= 0 && n <= 64);
        for (int i = 0; i < n; i++) {
            meeting();
            for (Particle p : particles) {
                if (p.kind < 6) {
                    go(p, p.kind);
                }
            }
            edges();
            move();
            time = time + 1;
        }
        return time;
    }

    int back(int n) {
        argument(n >= 0 && n <= 64);
        for (int[] row : edge) {
            for (int sort : row) {
                if (sort > 1) {
                    throw new UnsupportedOperationException();
                }
            }
        }
        for (int i = 0; i < n; i++) {
            time = time - 1;
            takeWallsBack();
            for (Particle p : particles) {
                if (p.kind < 6) {
                    comeFrom(p);
                }
            }
            takeMeetingBack();
        }
        return time;
    }

    int sum(int x, int y, int width, int height, int field) {
        cell(x, y);
        long lastX = (long) x + width - 1;
        long lastY = (long) y + height - 1;
        if (width <= 0 || height <= 0 || lastX >= w || lastY >= h) {
            throw new IndexOutOfBoundsException();
        }
        argument(field >= 0 && field <= 2);
        int sum = 0;
        for (Particle p : particles) {
            if (p.x >= x && p.x <= lastX && p.y >= y && p.y <= lastY) {
                sum += field == 0 ? 1 : MOMENTUM[p.kind][field - 1];
            }
        }
        return sum;
    }

    int book(int kind, int field) {
        argument(kind >= 0 && kind <= 3);
        argument(field >= 0 && field <= 2);
        return book[kind][field];
    }

    int check() {
        int sum = 0;
        for (Particle p : particles) {
            sum += (1 << p.kind) * (p.y * 16 + p.x + 1);
        }
        return sum;
    }

    int mark(int x, int y, int kind) {
        cell(x, y);
        argument(kind >= 0 && kind <= 6);
        Particle found = null;
        for (Particle p : in(x, y)) {
            found = p.kind == kind ? p : found;
        }
        if (found == null) {
            throw new NoSuchElementException();
        }
        if (found.mark >= 0) {
            throw new IllegalStateException();
        }
        if (marked.size() == 4) {
            throw new UnsupportedOperationException();
        }
        found.mark = marked.size();
        marked.add(found);
        return found.mark;
    }

    int marked(int mark) {
        if (mark < 0 || mark >= marked.size()) {
            throw new IndexOutOfBoundsException();
        }
        Particle p = marked.get(mark);
        return p == null ? -1 : 128 * p.y + 8 * p.x + p.kind;
    }

    private void cell(int x, int y) {
        if (x < 0 || y < 0 || x >= w || y >= h) {
            throw new IndexOutOfBoundsException();
        }
    }

    private static void argument(boolean right) {
        if (!right) {
            throw new IllegalArgumentException();
        }
    }

    private static TreeSet<Integer> kinds(int... some) {
        TreeSet<Integer> set = new TreeSet<>();
        for (int kind : some) {
            set.add(kind % 6);
        }
        return set;
    }

    private static TreeSet<Integer> allBut(int one, int other) {
        TreeSet<Integer> set = kinds(0, 1, 2, 3, 4, 5);
        set.removeAll(kinds(one, other));
        return set;
    }

    private static int bitsOf(TreeSet<Integer> flying, boolean rest) {
        int bits = rest ? 64 : 0;
        for (int kind : flying) {
            bits += 1 << kind;
        }
        return bits;
    }

    /** The particles of a cell in order of their kinds. */
    private List<Particle> in(int x, int y) {
        List<Particle> found = new ArrayList<>();
        for (Particle p : particles) {
            if (p.x == x && p.y == y) {
                found.add(p);
            }
        }
        found.sort((a, b) -> a.kind - b.kind);
        return found;
    }

    private void lose(Particle p) {
        particles.remove(p);
        if (p.mark >= 0) {
            marked.set(p.mark, null);
        }
    }

    private int[] neighbour(int x, int y, int d) {
        boolean even = y % 2 == 0;
        int column;
        int row = y;
        if (d == 0) {
            column = x + 1;
        } else if (d == 3) {
            column = x - 1;
        } else {
            row = d == 1 || d == 2 ? y - 1 : y + 1;
            if (d == 1 || d == 5) {
                column = even ? x : x + 1;
            } else {
                column = even ? x - 1 : x;
            }
        }
        return new int[] {(column + w) % w, (row + h) % h};
    }

    private void go(Particle p, int d) {
        int[] to = neighbour(p.x, p.y, d);
        p.x = to[0];
        p.y = to[1];
    }

    private void comeFrom(Particle p) {
        for (int y = 0; y < h; y++) {
            for (int x = 0; x < w; x++) {
                int[] to = neighbour(x, y, p.kind);
                if (to[0] == p.x && to[1] == p.y) {
                    p.x = x;
                    p.y = y;
                    return;
                }
            }
        }
        throw new AssertionError("no cell to come from");
    }

    private void become(int x, int y, int bits) {
        int next = 0;
        for (Particle p : in(x, y)) {
            while ((bits & 1 << next) == 0) {
                next++;
            }
            p.kind = next++;
        }
    }

    private void meeting() {
        for (int y = 0; y < h; y++) {
            for (int x = 0; x < w; x++) {
                int bits = get(x, y);
                if (bits != 0 && edge[y][x] != 1 && edge[y][x] != 4) {
                    become(x, y, rule(bits, Math.floorMod(x + y + time, 2)));
                }
            }
        }
    }

    private void takeMeetingBack() {
        for (int y = 0; y < h; y++) {
            for (int x = 0; x < w; x++) {
                int bits = get(x, y);
                for (int before = 1; bits != 0 && edge[y][x] != 1 && before < 128; before++) {
                    if (rule(before, Math.floorMod(x + y + time, 2)) == bits) {
                        become(x, y, before);
                        break;
                    }
                }
            }
        }
    }

    private void edges() {
        for (int y = 0; y < h; y++) {
            for (int x = 0; x < w; x++) {
                int sort = edge[y][x];
                if (sort != 0) {
                    int[] before = all();
                    oneEdge(x, y, sort);
                    int[] after = all();
                    for (int field = 0; field < 3; field++) {
                        book[sort - 1][field] += after[field] - before[field];
                        if (sort == 4 && field > 0) {
                            account[field - 1] -= after[field] - before[field];
                        }
                    }
                }
            }
        }
    }

    private int[] all() {
        return new int[] {sum(0, 0, w, h, 0), sum(0, 0, w, h, 1), sum(0, 0, w, h, 2)};
    }

    private void oneEdge(int x, int y, int sort) {
        if (sort == 2) {
            for (int kind = 0; kind < 7; kind++) {
                seed = seed * 1103515245 + 12345;
                if (((seed >>> 16) & 255) < rate[y][x] && (get(x, y) & 1 << kind) == 0) {
                    particles.add(new Particle(x, y, kind));
                }
            }
            return;
        }
        for (Particle p : in(x, y)) {
            if (sort == 3) {
                lose(p);
            } else if (p.kind < 6) {
                p.kind = (p.kind + 3) % 6;
            }
        }
    }

    private void takeWallsBack() {
        int[] now = all();
        for (int y = 0; y < h; y++) {
            for (int x = 0; x < w; x++) {
                if (edge[y][x] == 1) {
                    oneEdge(x, y, 1);
                }
            }
        }
        int[] then = all();
        for (int field = 0; field < 3; field++) {
            book[0][field] -= now[field] - then[field];
        }
    }

    private void move() {
        int p = account[0];
        int q = account[1];
        int[] along = {2 * p + q, p + 2 * q, q - p, -2 * p - q, -p - 2 * q, p - q};
        int d = 0;
        while (d < 6 && along[d] < 2 * mass) {
            d++;
        }
        if (d == 6) {
            return;
        }
        boolean[][] next = new boolean[h][w];
        boolean any = false;
        for (int y = 0; y < h; y++) {
            for (int x = 0; x < w; x++) {
                if (edge[y][x] == 4) {
                    any = true;
                    int[] to = neighbour(x, y, d);
                    int there = edge[to[1]][to[0]];
                    if (there == 1 || there == 2 || there == 3) {
                        return;
                    }
                    next[to[1]][to[0]] = true;
                }
            }
        }
        if (any) {
            moveTo(next);
            account[0] -= mass * MOMENTUM[d][0];
            account[1] -= mass * MOMENTUM[d][1];
            account[2]++;
        }
    }

    private void moveTo(boolean[][] next) {
        List<int[]> gained = new ArrayList<>();
        List<int[]> left = new ArrayList<>();
        for (int y = 0; y < h; y++) {
            for (int x = 0; x < w; x++) {
                boolean was = edge[y][x] == 4;
                if (next[y][x] && !was) {
                    gained.add(new int[] {x, y});
                }
                if (was && !next[y][x]) {
                    left.add(new int[] {x, y});
                }
            }
        }
        for (int i = 0; i < gained.size(); i++) {
            int[] a = gained.get(i);
            int[] b = left.get(i);
            List<Particle> ofA = in(a[0], a[1]);
            List<Particle> ofB = in(b[0], b[1]);
            for (Particle p : ofA) {
                p.x = b[0];
                p.y = b[1];
            }
            for (Particle p : ofB) {
                p.x = a[0];
                p.y = a[1];
            }
            edge[a[1]][a[0]] = 4;
            edge[b[1]][b[0]] = 0;
        }
    }
}

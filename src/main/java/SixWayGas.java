import java.util.Arrays;
import java.util.NoSuchElementException;

/**
 * A gas of particles on a grid in which every cell has six neighbours. The document's words are
 * kept: edges are walls, sources, sinks and the cells of the body; a cell's number is
 * y * columns + x, so that going up through the numbers is going row by row.
 */
public final class SixWayGas {
    public static final int NONE = -1;

    private static final int DIRECTIONS = 6;
    private static final int OPPOSITE = 3;
    private static final int KINDS = 7;
    private static final int FLYING = 63;
    private static final int RESTING = 64;
    private static final int ALL = 127;
    private static final int EVEN_KINDS = 21;
    private static final int ODD_KINDS = 42;

    /** What edge() answers; a sort's book is the one before it, as books begin with the walls at 0. */
    private static final int FREE = 0;
    private static final int WALL = 1;
    private static final int SOURCE = 2;
    private static final int SINK = 3;
    private static final int BODY = 4;

    private static final int FIELDS = 3;
    private static final int HIGHEST_RATE = 256;
    private static final int HIGHEST_MASS = 10000;
    private static final int FIRST_MASS = 100;
    private static final int MOST_STEPS = 64;
    private static final int MOST_MARKS = 4;

    /** Of the flying kinds; the resting one has none. */
    private static final int[] MOMENTUM_P = {1, 0, -1, -1, 0, 1};
    private static final int[] MOMENTUM_Q = {0, 1, 1, 0, -1, -1};
    private static final int[] ALONG_P = {2, 1, -1, -2, -1, 1};
    private static final int[] ALONG_Q = {1, 2, 1, -1, -2, -1};

    private final Grid grid;
    private final int[] edges;
    private final int[] rates;
    private final Books books;
    private final BodyAccount bodyAccount;
    private final Marks marks;
    private final int[] gainedCells;
    private final int[] leftCells;
    private int[] cellBits;
    private int[] arriving;
    private int time;
    private int seedNow;

    public SixWayGas(int w, int h) {
        grid = new Grid(sideOf(w), sideOf(h));
        edges = new int[grid.cells];
        rates = new int[grid.cells];
        books = new Books();
        bodyAccount = new BodyAccount();
        marks = new Marks();
        gainedCells = new int[grid.cells];
        leftCells = new int[grid.cells];
        cellBits = new int[grid.cells];
        arriving = new int[grid.cells];
        time = 0;
        seedNow = 0;
    }

    public void set(int x, int y, int bits) throws IndexOutOfBoundsException, IllegalArgumentException {
        int cell = cellAt(x, y);
        refuseNoBits(bits);
        cellBits[cell] = bits;
        marks.loseAt(cell);
    }

    public int get(int x, int y) throws IndexOutOfBoundsException {
        return cellBits[cellAt(x, y)];
    }

    public int rule(int bits, int sense) throws IllegalArgumentException {
        refuseNoBits(bits);
        refuseOutside(sense, 0, 1);
        return turned(bits, sense);
    }

    public boolean wall(int x, int y, boolean on) throws IndexOutOfBoundsException, IllegalStateException {
        return putEdge(cellAt(x, y), WALL, on);
    }

    public void source(int x, int y, int rate)
            throws IndexOutOfBoundsException, IllegalArgumentException, IllegalStateException {
        int cell = cellAt(x, y);
        refuseOutside(rate, 0, HIGHEST_RATE);
        putEdge(cell, SOURCE, rate > 0);
        rates[cell] = rate;
    }

    public boolean sink(int x, int y, boolean on) throws IndexOutOfBoundsException, IllegalStateException {
        return putEdge(cellAt(x, y), SINK, on);
    }

    public boolean body(int x, int y, boolean on) throws IndexOutOfBoundsException, IllegalStateException {
        return putEdge(cellAt(x, y), BODY, on);
    }

    public int edge(int x, int y) throws IndexOutOfBoundsException {
        return edges[cellAt(x, y)];
    }

    public void mass(int m) throws IllegalArgumentException {
        refuseOutside(m, 1, HIGHEST_MASS);
        bodyAccount.weight = m;
    }

    public int account(int field) throws IllegalArgumentException {
        refuseOutside(field, 0, 2);
        if (field == 0) {
            return bodyAccount.gotP;
        }
        return field == 1 ? bodyAccount.gotQ : bodyAccount.moves;
    }

    public void seed(int s) {
        seedNow = s;
    }

    public int step(int n) throws IllegalArgumentException {
        refuseOutside(n, 0, MOST_STEPS);
        for (int i = 0; i < n; i++) {
            stepForth();
        }
        return time;
    }

    public int back(int n) throws IllegalArgumentException, UnsupportedOperationException {
        refuseOutside(n, 0, MOST_STEPS);
        if (!hasOnlyWalls()) {
            throw new UnsupportedOperationException("a source, a sink or the body is there");
        }
        for (int i = 0; i < n; i++) {
            stepBack();
        }
        return time;
    }

    public int sum(int x, int y, int w, int h, int field)
            throws IndexOutOfBoundsException, IllegalArgumentException {
        int first = cellAt(x, y);
        // Compared with what is left of the grid, as x + w could wrap around.
        if (w < 1 || w > grid.width - x || h < 1 || h > grid.height - y) {
            throw new IndexOutOfBoundsException("no such rectangle");
        }
        refuseOutside(field, 0, FIELDS - 1);
        int total = 0;
        for (int row = 0; row < h; row++) {
            for (int column = 0; column < w; column++) {
                total += amount(cellBits[first + row * grid.width + column], field);
            }
        }
        return total;
    }

    public int book(int kind, int field) throws IllegalArgumentException {
        refuseOutside(kind, 0, BODY - 1);
        refuseOutside(field, 0, FIELDS - 1);
        return books.gave[kind * FIELDS + field];
    }

    public int check() {
        int total = 0;
        for (int cell = 0; cell < grid.cells; cell++) {
            total += cellBits[cell] * (grid.rowOf(cell) * 16 + grid.columnOf(cell) + 1);
        }
        return total;
    }

    public int mark(int x, int y, int kind) throws IndexOutOfBoundsException, IllegalArgumentException,
            NoSuchElementException, IllegalStateException, UnsupportedOperationException {
        int cell = cellAt(x, y);
        refuseOutside(kind, 0, KINDS - 1);
        if (!holds(cellBits[cell], kind)) {
            throw new NoSuchElementException("no such particle");
        }
        if (marks.isOn(cell, kind)) {
            throw new IllegalStateException("it has a mark already");
        }
        if (marks.count >= MOST_MARKS) {
            throw new UnsupportedOperationException("all marks are given");
        }
        return marks.put(cell, kind);
    }

    public int marked(int mark) throws IndexOutOfBoundsException {
        if (mark < 0 || mark >= marks.count) {
            throw new IndexOutOfBoundsException("no such mark");
        }
        int cell = marks.cells[mark];
        if (cell == NONE) {
            return NONE;
        }
        return 128 * grid.rowOf(cell) + 8 * grid.columnOf(cell) + marks.kinds[mark];
    }

    private static int sideOf(int asked) {
        boolean fits = asked >= 4 && asked <= 16 && asked % 2 == 0;
        return fits ? asked : 8;
    }

    private int cellAt(int x, int y) {
        if (x < 0 || x >= grid.width || y < 0 || y >= grid.height) {
            throw new IndexOutOfBoundsException("no such cell");
        }
        return y * grid.width + x;
    }

    private static void refuseNoBits(int bits) {
        refuseOutside(bits, 0, ALL);
    }

    private static void refuseOutside(int value, int lowest, int highest) {
        if (value < lowest || value > highest) {
            throw new IllegalArgumentException("out of range");
        }
    }

    private boolean putEdge(int cell, int sort, boolean on) {
        int now = edges[cell];
        if (now != FREE && now != sort) {
            throw new IllegalStateException("the cell is another edge");
        }
        int then = on ? sort : FREE;
        edges[cell] = then;
        return then != now;
    }

    private static boolean holds(int bits, int kind) {
        return (bits >> kind & 1) != 0;
    }

    /** How many particles bits are (field 0), or the first or second number of their momentum. */
    private static int amount(int bits, int field) {
        if (field == 0) {
            return Integer.bitCount(bits);
        }
        int total = 0;
        for (int kind = 0; kind < DIRECTIONS; kind++) {
            if (holds(bits, kind)) {
                total += field == 1 ? MOMENTUM_P[kind] : MOMENTUM_Q[kind];
            }
        }
        return total;
    }

    /** The flying kinds each made kind + by. */
    private static int rotated(int flying, int by) {
        return (flying << by | flying >> DIRECTIONS - by) & FLYING;
    }

    private static int bounced(int bits) {
        return rotated(bits & FLYING, OPPOSITE) | bits & RESTING;
    }

    /** THE RULE. With the other sense it undoes itself, which stepBack uses. */
    private static int turned(int bits, int sense) {
        int flying = bits & FLYING;
        int resting = bits & RESTING;
        // Only one or two whole pairs of opposites look the same from behind, but for none and all.
        if (flying != 0 && flying != FLYING && rotated(flying, OPPOSITE) == flying) {
            return rotated(flying, sense == 0 ? 1 : DIRECTIONS - 1) | resting;
        }
        if (flying == EVEN_KINDS || flying == ODD_KINDS) {
            return flying ^ FLYING | resting;
        }
        int oneOn = rotated(flying, 1);
        int oneBack = rotated(flying, DIRECTIONS - 1);
        if (resting != 0 && Integer.bitCount(flying) == 1) {
            return oneOn | oneBack;
        }
        int between = oneOn & oneBack;
        if (resting == 0 && Integer.bitCount(flying) == 2 && between != 0) {
            return between | RESTING;
        }
        return bits;
    }

    private void stepForth() {
        meet(0);
        fly(0);
        passEdges();
        moveBody();
        time++;
    }

    /** Only for a grid without sources, sinks and body: then the edges are walls, which undo themselves. */
    private void stepBack() {
        time--;
        passEdges();
        fly(OPPOSITE);
        meet(1);
    }

    private boolean hasOnlyWalls() {
        for (int cell = 0; cell < grid.cells; cell++) {
            if (edges[cell] != FREE && edges[cell] != WALL) {
                return false;
            }
        }
        return true;
    }

    /** With otherWay 1 the sense is the other one, which takes the meeting of this time back. */
    private void meet(int otherWay) {
        // The marks go first: they need the bits from before.
        for (int i = 0; i < marks.count; i++) {
            int cell = marks.cells[i];
            if (cell != NONE) {
                marks.turn(i, cellBits[cell], metBits(cell, otherWay));
            }
        }
        for (int cell = 0; cell < grid.cells; cell++) {
            cellBits[cell] = metBits(cell, otherWay);
        }
    }

    private int metBits(int cell, int otherWay) {
        int bits = cellBits[cell];
        // Most cells are empty in most runs, so the rule is spared for them.
        if (bits == 0 || edges[cell] == WALL || edges[cell] == BODY) {
            return bits;
        }
        int sense = (grid.columnOf(cell) + grid.rowOf(cell) + time + otherWay) & 1;
        return turned(bits, sense);
    }

    /** Each flying particle goes by its kind + turn: 0 forth, OPPOSITE to where it came from. */
    private void fly(int turn) {
        Arrays.fill(arriving, 0);
        for (int cell = 0; cell < grid.cells; cell++) {
            if (cellBits[cell] != 0) {
                sendOff(cell, cellBits[cell], turn);
            }
        }
        int[] emptied = cellBits;
        cellBits = arriving;
        arriving = emptied;
        marks.fly(grid, turn);
    }

    private void sendOff(int cell, int bits, int turn) {
        arriving[cell] |= bits & RESTING;
        for (int kind = 0; kind < DIRECTIONS; kind++) {
            if (holds(bits, kind)) {
                arriving[grid.neighbour(cell, kind + turn)] |= 1 << kind;
            }
        }
    }

    private void passEdges() {
        for (int cell = 0; cell < grid.cells; cell++) {
            int sort = edges[cell];
            if (sort != FREE) {
                int before = cellBits[cell];
                int after = edgeBits(sort, before, rates[cell]);
                cellBits[cell] = after;
                books.enter(sort - 1, before, after);
                if (sort == BODY) {
                    bodyAccount.receive(before, after);
                }
            }
        }
        marks.passEdges(edges);
    }

    private int edgeBits(int sort, int bits, int rate) {
        if (sort == SINK) {
            return 0;
        }
        return sort == SOURCE ? fedBits(bits, rate) : bounced(bits);
    }

    private int fedBits(int bits, int rate) {
        int fed = bits;
        for (int kind = 0; kind < KINDS; kind++) {
            seedNow = seedNow * 1103515245 + 12345;
            if ((seedNow >>> 16 & 255) < rate) {
                fed |= 1 << kind;
            }
        }
        return fed;
    }

    private void moveBody() {
        int direction = bodyAccount.heading();
        if (direction != NONE && bodyCanMove(direction)) {
            shiftBody(direction);
            bodyAccount.spend(direction);
        }
    }

    private boolean bodyCanMove(int direction) {
        boolean hasCells = false;
        for (int cell = 0; cell < grid.cells; cell++) {
            if (edges[cell] == BODY) {
                hasCells = true;
                int ahead = edges[grid.neighbour(cell, direction)];
                if (ahead != FREE && ahead != BODY) {
                    return false;
                }
            }
        }
        return hasCells;
    }

    private void shiftBody(int direction) {
        int gained = 0;
        int left = 0;
        for (int cell = 0; cell < grid.cells; cell++) {
            boolean was = edges[cell] == BODY;
            boolean becomes = edges[grid.neighbour(cell, direction + OPPOSITE)] == BODY;
            if (becomes && !was) {
                gainedCells[gained++] = cell;
            }
            if (was && !becomes) {
                leftCells[left++] = cell;
            }
        }
        // There are as many left as gained, since no two cells have the same neighbour by a direction.
        for (int i = 0; i < gained; i++) {
            edges[gainedCells[i]] = BODY;
            edges[leftCells[i]] = FREE;
            exchange(gainedCells[i], leftCells[i]);
        }
    }

    private void exchange(int one, int other) {
        int bits = cellBits[one];
        cellBits[one] = cellBits[other];
        cellBits[other] = bits;
        marks.exchange(one, other);
    }

    /** The cells' places and neighbours. */
    private static final class Grid {
        private final int width;
        private final int height;
        private final int cells;
        private final int[] neighbours;

        private Grid(int width, int height) {
            this.width = width;
            this.height = height;
            cells = width * height;
            neighbours = new int[cells * DIRECTIONS];
            for (int y = 0; y < height; y++) {
                for (int x = 0; x < width; x++) {
                    for (int direction = 0; direction < DIRECTIONS; direction++) {
                        int column = Math.floorMod(x + columnsOn(y, direction), width);
                        int row = Math.floorMod(y + rowsOn(direction), height);
                        neighbours[(y * width + x) * DIRECTIONS + direction] = row * width + column;
                    }
                }
            }
        }

        private static int rowsOn(int direction) {
            if (direction == 0 || direction == 3) {
                return 0;
            }
            return direction < 3 ? -1 : 1;
        }

        private static int columnsOn(int y, int direction) {
            if (direction == 0) {
                return 1;
            }
            if (direction == 3) {
                return -1;
            }
            boolean right = direction == 1 || direction == 5;
            // Odd rows lie half a cell to the right of even ones.
            return (right ? 0 : -1) + y % 2;
        }

        private int columnOf(int cell) {
            return cell % width;
        }

        private int rowOf(int cell) {
            return cell / width;
        }

        private int neighbour(int cell, int direction) {
            return neighbours[cell * DIRECTIONS + direction % DIRECTIONS];
        }
    }

    /** What walls, sources, sinks and the body gave: three numbers each, one behind the other. */
    private static final class Books {
        private final int[] gave = new int[BODY * FIELDS];

        private void enter(int kind, int before, int after) {
            for (int field = 0; field < FIELDS; field++) {
                gave[kind * FIELDS + field] += amount(after, field) - amount(before, field);
            }
        }
    }

    /** The body's mass and account; which cells are the body's the edges say. */
    private static final class BodyAccount {
        private int weight = FIRST_MASS;
        private int gotP = 0;
        private int gotQ = 0;
        private int moves = 0;

        private void receive(int before, int after) {
            gotP -= amount(after, 1) - amount(before, 1);
            gotQ -= amount(after, 2) - amount(before, 2);
        }

        private int heading() {
            for (int direction = 0; direction < DIRECTIONS; direction++) {
                if (ALONG_P[direction] * gotP + ALONG_Q[direction] * gotQ >= 2 * weight) {
                    return direction;
                }
            }
            return NONE;
        }

        private void spend(int direction) {
            gotP -= weight * MOMENTUM_P[direction];
            gotQ -= weight * MOMENTUM_Q[direction];
            moves++;
        }
    }

    /** Where the marked particles are; a lost mark's cell is NONE. */
    private static final class Marks {
        private final int[] cells = new int[MOST_MARKS];
        private final int[] kinds = new int[MOST_MARKS];
        private int count = 0;

        private boolean isOn(int cell, int kind) {
            for (int i = 0; i < count; i++) {
                if (cells[i] == cell && kinds[i] == kind) {
                    return true;
                }
            }
            return false;
        }

        /** Only while there are fewer than MOST_MARKS. */
        private int put(int cell, int kind) {
            cells[count] = cell;
            kinds[count] = kind;
            return count++;
        }

        private void loseAt(int cell) {
            for (int i = 0; i < count; i++) {
                if (cells[i] == cell) {
                    cells[i] = NONE;
                }
            }
        }

        /** Its particle was the k-th of the bits before, so it is on the k-th of those after. */
        private void turn(int i, int before, int after) {
            if (before == after) {
                return;
            }
            int lower = Integer.bitCount(before & (1 << kinds[i]) - 1);
            for (int kind = 0; kind < KINDS; kind++) {
                if (holds(after, kind) && Integer.bitCount(after & (1 << kind) - 1) == lower) {
                    kinds[i] = kind;
                    return;
                }
            }
        }

        private void fly(Grid grid, int turn) {
            for (int i = 0; i < count; i++) {
                if (cells[i] != NONE && kinds[i] < DIRECTIONS) {
                    cells[i] = grid.neighbour(cells[i], kinds[i] + turn);
                }
            }
        }

        private void passEdges(int[] edges) {
            for (int i = 0; i < count; i++) {
                int sort = cells[i] == NONE ? FREE : edges[cells[i]];
                if (sort == SINK) {
                    cells[i] = NONE;
                } else if ((sort == WALL || sort == BODY) && kinds[i] < DIRECTIONS) {
                    kinds[i] = (kinds[i] + OPPOSITE) % DIRECTIONS;
                }
            }
        }

        private void exchange(int one, int other) {
            for (int i = 0; i < count; i++) {
                if (cells[i] == one) {
                    cells[i] = other;
                } else if (cells[i] == other) {
                    cells[i] = one;
                }
            }
        }
    }
}

/**
 * Pictures of eight by eight cells that are on or off.
 *
 * A set of cells is held in one long, whose binary digit c stands for cell c, so that a step of
 * all its cells to one side is a single shift.
 */
public final class CellPieces {
    public static final int BAD_ARG = -1;
    public static final int NONE = -4;

    private static final int SIDE = 8;
    private static final int ALL_CELLS = 64;
    private static final int GREATEST_LINE = 255;
    private static final long FIRST_LINE = 0x00000000000000FFL;
    private static final long LEFT_COLUMN = 0x0101010101010101L;
    private static final long RIGHT_COLUMN = 0x8080808080808080L;
    private static final long RIM = 0xFF818181818181FFL;

    private long on;

    public CellPieces() {
        on = 0L;
    }

    public int turn(int cell) {
        if (!isCell(cell)) {
            return BAD_ARG;
        }
        on ^= 1L << cell;
        return has(on, cell) ? 1 : 0;
    }

    public int line(int y, int set) {
        if (y < 0 || y >= SIDE || set < 0 || set > GREATEST_LINE) {
            return BAD_ARG;
        }
        int start = SIDE * y;
        int before = (int) (on >>> start & FIRST_LINE);
        on = on & ~(FIRST_LINE << start) | (long) set << start;
        return before;
    }

    public int box(int from, int to, int v) {
        if (!isCell(from) || !isCell(to) || v < 0 || v > 1) {
            return BAD_ARG;
        }
        if (from % SIDE > to % SIDE || from / SIDE > to / SIDE) {
            return BAD_ARG;
        }
        long inside = rectangle(from, to);
        return become(v == 1 ? on | inside : on & ~inside);
    }

    public int cells() {
        return count(on);
    }

    public int pieces(int mode) {
        if (!isMode(mode)) {
            return BAD_ARG;
        }
        return countGroups(mode, on);
    }

    public int holes(int mode) {
        if (!isMode(mode)) {
            return BAD_ARG;
        }
        long inHoles = cellsOfHoles(mode);
        int other = otherMode(mode);
        return countGroups(other, inHoles);
    }

    public int balance(int mode) {
        if (!isMode(mode)) {
            return BAD_ARG;
        }
        long inHoles = cellsOfHoles(mode);
        int other = otherMode(mode);
        return countGroups(mode, on) - countGroups(other, inHoles);
    }

    public int piece(int mode, int cell) {
        if (!isMode(mode)) {
            return BAD_ARG;
        }
        if (!isOn(cell)) {
            return NONE;
        }
        long group = spread(mode, 1L << cell, on);
        return least(group);
    }

    public int size(int mode, int cell) {
        if (!isMode(mode)) {
            return BAD_ARG;
        }
        if (!isOn(cell)) {
            return NONE;
        }
        long group = spread(mode, 1L << cell, on);
        return count(group);
    }

    public int largest(int mode) {
        if (!isMode(mode)) {
            return BAD_ARG;
        }
        int most = 0;
        long rest = on;
        for (int cell = 0; cell < ALL_CELLS; cell++) {
            if (has(rest, cell)) {
                long group = spread(mode, 1L << cell, on);
                int members = count(group);
                most = members > most ? members : most;
                rest &= ~group;
            }
        }
        return most;
    }

    public int edge() {
        long rightIsOn = movedLeft(on);
        long leftIsOn = movedRight(on);
        long belowIsOn = on >>> SIDE;
        long aboveIsOn = on << SIDE;
        return count(on & ~rightIsOn) + count(on & ~leftIsOn)
                + count(on & ~belowIsOn) + count(on & ~aboveIsOn);
    }

    public int grow(int mode) {
        if (!isMode(mode)) {
            return BAD_ARG;
        }
        long around = near(mode, on);
        return become(on | around);
    }

    public int shrink(int mode) {
        if (!isMode(mode)) {
            return BAD_ARG;
        }
        long kept = shrunk(mode, on);
        return become(kept);
    }

    public int fill(int mode) {
        if (!isMode(mode)) {
            return BAD_ARG;
        }
        long inHoles = cellsOfHoles(mode);
        return become(on | inHoles);
    }

    public int clear(int mode, int n) {
        if (!isMode(mode) || n < 0 || n > ALL_CELLS) {
            return BAD_ARG;
        }
        long kept = on;
        long rest = on;
        for (int cell = 0; cell < ALL_CELLS; cell++) {
            if (has(rest, cell)) {
                long group = spread(mode, 1L << cell, on);
                kept = count(group) < n ? kept & ~group : kept;
                rest &= ~group;
            }
        }
        return become(kept);
    }

    public int depth(int cell) {
        if (!isCell(cell)) {
            return BAD_ARG;
        }
        // Each shrinking in mode 4 takes away the cells that are one step further in.
        long kept = on;
        int steps = 0;
        while (steps < ALL_CELLS && has(kept, cell)) {
            kept = shrunk(4, kept);
            steps++;
        }
        return steps;
    }

    public int way(int mode, int a, int b) {
        if (!isMode(mode)) {
            return BAD_ARG;
        }
        if (!isOn(a) || !isOn(b)) {
            return NONE;
        }
        long reached = 1L << a;
        for (int steps = 0; steps < ALL_CELLS; steps++) {
            if (has(reached, b)) {
                return steps;
            }
            reached |= near(mode, reached) & on;
        }
        return NONE;
    }

    private static boolean isMode(int mode) {
        return mode == 4 || mode == 8;
    }

    private static int otherMode(int mode) {
        return mode == 4 ? 8 : 4;
    }

    private static boolean isCell(int cell) {
        return cell >= 0 && cell < ALL_CELLS;
    }

    private boolean isOn(int cell) {
        return isCell(cell) && has(on, cell);
    }

    private static boolean has(long set, int cell) {
        return (set >>> cell & 1L) != 0L;
    }

    private static int count(long set) {
        int members = 0;
        for (int cell = 0; cell < ALL_CELLS; cell++) {
            if (has(set, cell)) {
                members++;
            }
        }
        return members;
    }

    private static int least(long set) {
        for (int cell = 0; cell < ALL_CELLS; cell++) {
            if (has(set, cell)) {
                return cell;
            }
        }
        return NONE;
    }

    private static long rectangle(int from, int to) {
        long set = 0L;
        for (int cell = 0; cell < ALL_CELLS; cell++) {
            int x = cell % SIDE;
            int y = cell / SIDE;
            boolean inColumns = x >= from % SIDE && x <= to % SIDE;
            if (inColumns && y >= from / SIDE && y <= to / SIDE) {
                set |= 1L << cell;
            }
        }
        return set;
    }

    private int become(long next) {
        long changed = on ^ next;
        on = next;
        return count(changed);
    }

    // The column at the border is left out here and below, or its cells would come back on the
    // other side.
    private static long movedLeft(long set) {
        return (set & ~LEFT_COLUMN) >>> 1;
    }

    private static long movedRight(long set) {
        return (set & ~RIGHT_COLUMN) << 1;
    }

    private static long near(int mode, long set) {
        long beside = movedLeft(set) | movedRight(set);
        long upAndDown = mode == 8 ? set | beside : set;
        return beside | upAndDown << SIDE | upAndDown >>> SIDE;
    }

    // The rim goes in both modes: each of its cells has one outside at its side.
    private static long shrunk(int mode, long set) {
        return set & ~(near(mode, ~set) | RIM);
    }

    // A step adds a cell or nothing is left to add, so as many steps as cells are enough.
    private static long spread(int mode, long start, long within) {
        long reached = start;
        for (int step = 0; step < ALL_CELLS; step++) {
            reached |= near(mode, reached) & within;
        }
        return reached;
    }

    private static int countGroups(int mode, long set) {
        int groups = 0;
        long rest = set;
        for (int cell = 0; cell < ALL_CELLS; cell++) {
            if (has(rest, cell)) {
                groups++;
                rest &= ~spread(mode, 1L << cell, set);
            }
        }
        return groups;
    }

    private long cellsOfHoles(int mode) {
        long off = ~on;
        int other = otherMode(mode);
        return off & ~spread(other, off & RIM, off);
    }
}

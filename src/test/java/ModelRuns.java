/**
 * Runs of calls, chosen by a fixed rule, on the class and on a slow picture written straight from
 * the document's terms; every answer and, at the end of a run, every cell must be the same.
 */
public final class ModelRuns {
    private static final int RUNS = 4000;
    private static final int LONGEST_USE = 512;
    private static final int[] ODD_NUMBERS = {
        Integer.MIN_VALUE, -64, -8, -4, -1, 0, 5, 12, 64, 65, 256, Integer.MAX_VALUE};

    private static long state = 20261115L;
    private static int wrong = 0;

    public static void main(String[] args) {
        for (int run = 1; run <= RUNS && wrong < 20; run++) {
            CellPieces x = new CellPieces();
            PlainPicture model = new PlainPicture();
            scatter(x, model);
            // The last 64 calls of the object read its cells.
            int calls = run % 20 == 0 ? LONGEST_USE - 64 - 8 : 1 + choose(24);
            for (int i = 0; i < calls; i++) {
                oneCall(run, x, model);
            }
            for (int cell = 0; cell < 64; cell++) {
                due(run, "depth", cell, 0, 0, x.depth(cell), model.depth(cell));
            }
        }
        System.out.println(wrong == 0 ? "all runs agree" : wrong + " answers differ");
        if (wrong != 0) {
            System.exit(1);
        }
    }

    private static void due(int run, String call, int a, int b, int c, int got, int want) {
        if (got != want) {
            wrong++;
            System.out.println("run " + run + ": " + call + " with " + a + ", " + b + ", " + c
                    + " answered " + got + ", due is " + want);
        }
    }

    private static int choose(int bound) {
        state = state * 6364136223846793005L + 1442695040888963407L;
        return (int) ((state >>> 33) % bound);
    }

    // Thin, middling and dense pictures, for each has pieces and holes of another kind.
    private static void scatter(CellPieces x, PlainPicture model) {
        int dense = choose(4);
        for (int y = 0; y < 8; y++) {
            int set = choose(256);
            set = dense == 0 ? set & choose(256) : dense == 1 ? set | choose(256) : set;
            set = dense == 2 ? set | choose(256) | choose(256) : set;
            x.line(y, set);
            model.line(y, set);
        }
    }

    private static int often(int usual) {
        return choose(16) == 0 ? ODD_NUMBERS[choose(ODD_NUMBERS.length)] : usual;
    }

    private static void oneCall(int run, CellPieces x, PlainPicture model) {
        int mode = often(choose(2) == 0 ? 4 : 8);
        int a = often(choose(64));
        int b = often(choose(64));
        int n = often(choose(12));
        switch (choose(30)) {
            case 0: case 1: case 2: case 3:
                due(run, "turn", a, 0, 0, x.turn(a), model.turn(a));
                break;
            case 4: case 5: case 6:
                int y = often(choose(8));
                int set = often(choose(256));
                due(run, "line", y, set, 0, x.line(y, set), model.line(y, set));
                break;
            case 7: case 8: case 9:
                int v = often(choose(2));
                due(run, "box", a, b, v, x.box(a, b, v), model.box(a, b, v));
                break;
            case 10:
                due(run, "cells", 0, 0, 0, x.cells(), model.cells());
                break;
            case 11: case 12:
                due(run, "pieces", mode, 0, 0, x.pieces(mode), model.pieces(mode));
                break;
            case 13: case 14:
                due(run, "holes", mode, 0, 0, x.holes(mode), model.holes(mode));
                break;
            case 15:
                due(run, "balance", mode, 0, 0, x.balance(mode), model.balance(mode));
                break;
            case 16: case 17:
                due(run, "piece", mode, a, 0, x.piece(mode, a), model.piece(mode, a));
                break;
            case 18: case 19:
                due(run, "size", mode, a, 0, x.size(mode, a), model.size(mode, a));
                break;
            case 20:
                due(run, "largest", mode, 0, 0, x.largest(mode), model.largest(mode));
                break;
            case 21:
                due(run, "edge", 0, 0, 0, x.edge(), model.edge());
                break;
            case 22:
                due(run, "grow", mode, 0, 0, x.grow(mode), model.grow(mode));
                break;
            case 23:
                due(run, "shrink", mode, 0, 0, x.shrink(mode), model.shrink(mode));
                break;
            case 24:
                due(run, "fill", mode, 0, 0, x.fill(mode), model.fill(mode));
                break;
            case 25:
                due(run, "clear", mode, n, 0, x.clear(mode, n), model.clear(mode, n));
                break;
            case 26: case 27:
                due(run, "depth", a, 0, 0, x.depth(a), model.depth(a));
                break;
            default:
                due(run, "way", mode, a, b, x.way(mode, a, b), model.way(mode, a, b));
                break;
        }
    }
}

/** The document's terms, word by word, with no regard for speed. */
final class PlainPicture {
    private static final int BAD_ARG = -1;
    private static final int NONE = -4;

    private boolean[] on = new boolean[64];

    int turn(int cell) {
        if (!inside(cell)) {
            return BAD_ARG;
        }
        on[cell] = !on[cell];
        return on[cell] ? 1 : 0;
    }

    int line(int y, int set) {
        if (y < 0 || y > 7 || set < 0 || set > 255) {
            return BAD_ARG;
        }
        int before = 0;
        for (int x = 7; x >= 0; x--) {
            before = 2 * before + (on[8 * y + x] ? 1 : 0);
            on[8 * y + x] = (set & 1 << x) != 0;
        }
        return before;
    }

    int box(int from, int to, int v) {
        if (!inside(from) || !inside(to) || v != 0 && v != 1) {
            return BAD_ARG;
        }
        int x0 = from % 8;
        int y0 = from / 8;
        int x1 = to % 8;
        int y1 = to / 8;
        if (x0 > x1 || y0 > y1) {
            return BAD_ARG;
        }
        boolean[] next = on.clone();
        for (int y = y0; y <= y1; y++) {
            for (int x = x0; x <= x1; x++) {
                next[8 * y + x] = v == 1;
            }
        }
        return become(next);
    }

    int cells() {
        int sum = 0;
        for (boolean cell : on) {
            sum += cell ? 1 : 0;
        }
        return sum;
    }

    int pieces(int mode) {
        if (mode != 4 && mode != 8) {
            return BAD_ARG;
        }
        int[] name = names(mode, true);
        int sum = 0;
        for (int cell = 0; cell < 64; cell++) {
            sum += name[cell] == cell ? 1 : 0;
        }
        return sum;
    }

    int holes(int mode) {
        if (mode != 4 && mode != 8) {
            return BAD_ARG;
        }
        int[] name = names(12 - mode, false);
        int sum = 0;
        for (int cell = 0; cell < 64; cell++) {
            sum += name[cell] == cell && !hasRim(name, cell) ? 1 : 0;
        }
        return sum;
    }

    int balance(int mode) {
        return mode != 4 && mode != 8 ? BAD_ARG : pieces(mode) - holes(mode);
    }

    int piece(int mode, int cell) {
        if (mode != 4 && mode != 8) {
            return BAD_ARG;
        }
        return isOn(cell) ? names(mode, true)[cell] : NONE;
    }

    int size(int mode, int cell) {
        if (mode != 4 && mode != 8) {
            return BAD_ARG;
        }
        return isOn(cell) ? members(names(mode, true), cell) : NONE;
    }

    int largest(int mode) {
        if (mode != 4 && mode != 8) {
            return BAD_ARG;
        }
        int most = 0;
        for (int cell = 0; cell < 64; cell++) {
            most = Math.max(most, size(mode, cell));
        }
        return most;
    }

    int edge() {
        int pairs = 0;
        for (int y = 0; y < 8; y++) {
            for (int x = 0; x < 8; x++) {
                if (at(x, y)) {
                    pairs += at(x - 1, y) ? 0 : 1;
                    pairs += at(x + 1, y) ? 0 : 1;
                    pairs += at(x, y - 1) ? 0 : 1;
                    pairs += at(x, y + 1) ? 0 : 1;
                }
            }
        }
        return pairs;
    }

    int grow(int mode) {
        if (mode != 4 && mode != 8) {
            return BAD_ARG;
        }
        boolean[] next = on.clone();
        for (int cell = 0; cell < 64; cell++) {
            if (hasNear(mode, cell, true)) {
                next[cell] = true;
            }
        }
        return become(next);
    }

    int shrink(int mode) {
        if (mode != 4 && mode != 8) {
            return BAD_ARG;
        }
        boolean[] next = on.clone();
        for (int cell = 0; cell < 64; cell++) {
            if (hasNear(mode, cell, false)) {
                next[cell] = false;
            }
        }
        return become(next);
    }

    int fill(int mode) {
        if (mode != 4 && mode != 8) {
            return BAD_ARG;
        }
        int[] name = names(12 - mode, false);
        boolean[] next = on.clone();
        for (int cell = 0; cell < 64; cell++) {
            if (!on[cell] && !hasRim(name, cell)) {
                next[cell] = true;
            }
        }
        return become(next);
    }

    int clear(int mode, int n) {
        if (mode != 4 && mode != 8 || n < 0 || n > 64) {
            return BAD_ARG;
        }
        boolean[] next = on.clone();
        for (int cell = 0; cell < 64; cell++) {
            next[cell] = on[cell] && size(mode, cell) >= n;
        }
        return become(next);
    }

    int depth(int cell) {
        if (!inside(cell)) {
            return BAD_ARG;
        }
        int fewest = 100;
        for (int y = -1; y <= 8; y++) {
            for (int x = -1; x <= 8; x++) {
                if (!at(x, y)) {
                    int steps = Math.abs(x - cell % 8) + Math.abs(y - cell / 8);
                    fewest = Math.min(fewest, steps);
                }
            }
        }
        return fewest;
    }

    int way(int mode, int a, int b) {
        if (mode != 4 && mode != 8) {
            return BAD_ARG;
        }
        if (!isOn(a) || !isOn(b)) {
            return NONE;
        }
        int far = 1000;
        int[] steps = new int[64];
        java.util.Arrays.fill(steps, far);
        steps[a] = 0;
        boolean better = true;
        while (better) {
            better = false;
            for (int p = 0; p < 64; p++) {
                for (int q = 0; q < 64; q++) {
                    if (on[p] && on[q] && near(mode, p, q) && steps[p] + 1 < steps[q]) {
                        steps[q] = steps[p] + 1;
                        better = true;
                    }
                }
            }
        }
        return steps[b] >= far ? NONE : steps[b];
    }

    private static boolean inside(int cell) {
        return cell >= 0 && cell <= 63;
    }

    private boolean isOn(int cell) {
        return inside(cell) && on[cell];
    }

    private boolean at(int x, int y) {
        return x >= 0 && x <= 7 && y >= 0 && y <= 7 && on[8 * y + x];
    }

    private static boolean near(int mode, int p, int q) {
        int across = Math.abs(p % 8 - q % 8);
        int down = Math.abs(p / 8 - q / 8);
        return mode == 4 ? across + down == 1 : p != q && across <= 1 && down <= 1;
    }

    private boolean hasNear(int mode, int cell, boolean value) {
        for (int dy = -1; dy <= 1; dy++) {
            for (int dx = -1; dx <= 1; dx++) {
                boolean isNear = mode == 4 ? dx * dx + dy * dy == 1 : dx != 0 || dy != 0;
                if (isNear && at(cell % 8 + dx, cell / 8 + dy) == value) {
                    return true;
                }
            }
        }
        return false;
    }

    private int become(boolean[] next) {
        int changed = 0;
        for (int cell = 0; cell < 64; cell++) {
            changed += on[cell] != next[cell] ? 1 : 0;
        }
        on = next;
        return changed;
    }

    // For each cell of the value the least number of a cell of its set, for the others -1.
    private int[] names(int mode, boolean value) {
        int[] name = new int[64];
        for (int cell = 0; cell < 64; cell++) {
            name[cell] = on[cell] == value ? cell : -1;
        }
        boolean better = true;
        while (better) {
            better = false;
            for (int p = 0; p < 64; p++) {
                for (int q = 0; q < 64; q++) {
                    if (name[p] >= 0 && name[q] > name[p] && near(mode, p, q)) {
                        name[q] = name[p];
                        better = true;
                    }
                }
            }
        }
        return name;
    }

    private static int members(int[] name, int cell) {
        int sum = 0;
        for (int other : name) {
            sum += other == name[cell] ? 1 : 0;
        }
        return sum;
    }

    private static boolean hasRim(int[] name, int cell) {
        for (int other = 0; other < 64; other++) {
            boolean atRim = other % 8 == 0 || other % 8 == 7 || other / 8 == 0 || other / 8 == 7;
            if (atRim && name[other] == name[cell]) {
                return true;
            }
        }
        return false;
    }
}

/**
 * For each promise, the sentences that name a boundary: just inside and just outside of each range
 * and far from it, no cell and all cells, every border and corner, and more than one thing wrong.
 */
public final class BoundaryTests extends Checks {
    private static final long ALL = -1L;
    private static final long INNER = 0x007E7E7E7E7E7E00L;
    private static final long BOARD_CELLS = 0xAA55AA55AA55AA55L;
    // No two of these touch, and no more of this kind find room.
    private static final long APART = 0x0055005500550055L;
    private static final int[] WRONG_LINES = {
        LOWEST, LOWEST + 7, -1000000, -9, -8, -7, -2, -1,
        8, 9, 15, 16, 63, 64, 256, 1000000, 1 << 28, 1 << 29, HIGHEST};
    private static final int[] WRONG_SETS = {
        LOWEST, LOWEST + 1, -65536, -257, -256, -255, -2, -1,
        256, 257, 258, 511, 512, 65535, 65536, 1000000, HIGHEST};
    private static final int[] WRONG_VALUES = {
        LOWEST, LOWEST + 1, -256, -255, -2, -1, 2, 3, 4, 255, 256, 257, 65536, HIGHEST};
    private static final int[] WRONG_COUNTS = {
        LOWEST, LOWEST + 1, -1000000, -65, -64, -2, -1, 65, 66, 128, 256, 1000000, HIGHEST};

    public static void main(String[] args) {
        newObject();
        turnOnAndOff();
        turnOutsideRange();
        lineDigits();
        lineOutsideRange();
        boxOfEachPair();
        boxCountsChangesOnly();
        boxOutsideRange();
        boxWithMoreThanOneWrong();
        cellsFromNoneToAll();
        piecesFewestAndMost();
        holesFewestAndMost();
        balanceLikeACode();
        pieceLeastNumber();
        pieceOfNone();
        sizeLeastAndGreatest();
        sizeOfNone();
        largestLeastAndGreatest();
        edgeAtBorders();
        growFromEachCell();
        growOneStepOnly();
        shrinkAtBorders();
        shrinkOneStepOnly();
        fillNothingAndMost();
        fillLeavesNoHole();
        clearAroundEachSize();
        clearOutsideRange();
        depthOfOffAndBorders();
        depthOutsideRange();
        wayOfNoStep();
        wayOnAllCells();
        wayOfNone();
        end();
    }

    private static boolean has(long set, int cell) {
        return (set >>> cell & 1) != 0;
    }

    private static long boxOf(int x0, int y0, int x1, int y1) {
        long set = 0;
        for (int y = y0; y <= y1; y++) {
            for (int x = x0; x <= x1; x++) {
                set |= 1L << 8 * y + x;
            }
        }
        return set;
    }

    private static void newObject() {
        about("promise 1: All cells are off");
        CellPieces x = new CellPieces();
        due("cells()", x.cells(), 0);
        due("edge()", x.edge(), 0);
        for (int mode : MODES) {
            due("pieces(" + mode + ")", x.pieces(mode), 0);
            due("holes(" + mode + ")", x.holes(mode), 0);
            due("balance(" + mode + ")", x.balance(mode), 0);
            due("largest(" + mode + ")", x.largest(mode), 0);
            due("grow(" + mode + ")", x.grow(mode), 0);
            due("shrink(" + mode + ")", x.shrink(mode), 0);
            due("fill(" + mode + ")", x.fill(mode), 0);
            due("clear(" + mode + ", 64)", x.clear(mode, 64), 0);
        }
        for (int cell = 0; cell < 64; cell++) {
            due("depth(" + cell + ")", x.depth(cell), 0);
            due("piece(4, " + cell + ")", x.piece(4, cell), NONE);
            due("size(8, " + cell + ")", x.size(8, cell), NONE);
            due("way(8, " + cell + " ..)", x.way(8, cell, cell), NONE);
        }
        duePicture("making", x, 0L);
        for (int y = 0; y < 8; y++) {
            due("line(" + y + ", 255), first call", new CellPieces().line(y, 255), 0);
        }
        due("box(0, 63, 1), first call", new CellPieces().box(0, 63, 1), 64);
        due("box(0, 63, 0), first call", new CellPieces().box(0, 63, 0), 0);
        objectsAreApart();
    }

    private static void objectsAreApart() {
        about("promise 1: All cells are off, whatever other objects hold");
        CellPieces full = picture(FULL);
        CellPieces x = new CellPieces();
        duePicture("making a second object", x, 0L);
        due("turn(27) of the second object", x.turn(27), 1);
        duePicture("turn(27) of another object", full, ALL);
        due("shrink(4) of the first object", full.shrink(4), 28);
        duePicture("shrink(4) of another object", x, 1L << 27);
    }

    private static void turnOnAndOff() {
        about("promise 2: on if it was off, and off if it was on");
        for (int cell = 0; cell < 64; cell++) {
            for (long start : new long[] {0L, ALL, BOARD_CELLS}) {
                boolean wasOn = has(start, cell);
                CellPieces x = picture(start);
                due("turn(" + cell + ")", x.turn(cell), wasOn ? 0 : 1);
                duePicture("turn(" + cell + ")", x, start ^ 1L << cell);
                due("turn(" + cell + ") again", x.turn(cell), wasOn ? 1 : 0);
                duePicture("turn(" + cell + ") again", x, start);
            }
        }
    }

    private static void turnOutsideRange() {
        about("promise 2: BAD_ARG if it is not 0 to 63");
        for (long start : new long[] {0L, ALL, digits(SAMPLE)}) {
            for (int cell : WRONG_CELLS) {
                CellPieces x = picture(start);
                due("turn(" + cell + ")", x.turn(cell), BAD_ARG);
                duePicture("turn(" + cell + ")", x, start);
            }
        }
        CellPieces x = new CellPieces();
        due("turn(0)", x.turn(0), 1);
        due("turn(63)", x.turn(63), 1);
        duePicture("turn(0) and turn(63)", x, 1L | 1L << 63);
    }

    private static void lineDigits() {
        about("promise 3: digit x for x; the set before");
        for (int y = 0; y < 8; y++) {
            CellPieces x = new CellPieces();
            int before = 0;
            for (int digit = 0; digit < 8; digit++) {
                due("line(" + y + ", " + (1 << digit) + ")", x.line(y, 1 << digit), before);
                before = 1 << digit;
                due("depth of the cell of digit " + digit, x.depth(8 * y + digit), 1);
                due("cells()", x.cells(), 1);
            }
            for (int set = 0; set < 256; set++) {
                due("line(" + y + ", " + set + ")", x.line(y, set), before);
                before = set;
            }
            for (long start : new long[] {0L, ALL, digits(SAMPLE)}) {
                for (int set : new int[] {0, 1, 128, 129, 254, 255}) {
                    CellPieces other = picture(start);
                    due("line(" + y + ", " + set + ")", other.line(y, set),
                            (int) (start >>> 8 * y & 255));
                    duePicture("line(" + y + ", " + set + ")", other,
                            start & ~(255L << 8 * y) | (long) set << 8 * y);
                }
            }
        }
    }

    private static void lineOutsideRange() {
        about("promise 3: BAD_ARG if y is not 0 to 7 or set not 0 to 255");
        for (long start : new long[] {0L, ALL, digits(SAMPLE)}) {
            for (int y : WRONG_LINES) {
                CellPieces x = picture(start);
                for (int set : new int[] {0, 85, 255}) {
                    due("line(" + y + ", " + set + ")", x.line(y, set), BAD_ARG);
                }
                for (int set : WRONG_SETS) {
                    due("line(" + y + ", " + set + "), both wrong", x.line(y, set), BAD_ARG);
                }
                duePicture("line(" + y + " ..)", x, start);
            }
            for (int set : WRONG_SETS) {
                CellPieces x = picture(start);
                for (int y = 0; y < 8; y++) {
                    due("line(" + y + ", " + set + ")", x.line(y, set), BAD_ARG);
                }
                duePicture("line(.., " + set + ")", x, start);
            }
        }
    }

    private static void boxOfEachPair() {
        about("promise 4: x0 <= x <= x1 and y0 <= y <= y1; BAD_ARG if x0 > x1 or y0 > y1");
        for (int from = 0; from < 64; from++) {
            for (int to = 0; to < 64; to++) {
                for (long start : new long[] {0L, ALL, digits(SAMPLE)}) {
                    checkBox(start, from, to);
                }
            }
        }
    }

    private static void checkBox(long start, int from, int to) {
        boolean isRight = from % 8 <= to % 8 && from / 8 <= to / 8;
        long inside = isRight ? boxOf(from % 8, from / 8, to % 8, to / 8) : 0L;
        String words = "box(" + from + ", " + to + ", ";
        CellPieces x = picture(start);
        due(words + "1)", x.box(from, to, 1), isRight ? Long.bitCount(inside & ~start) : BAD_ARG);
        duePicture(words + "1)", x, start | inside);
        x = picture(start);
        due(words + "0)", x.box(from, to, 0), isRight ? Long.bitCount(inside & start) : BAD_ARG);
        duePicture(words + "0)", x, start & ~inside);
    }

    private static void boxCountsChangesOnly() {
        about("promise 4: how many cells changed");
        CellPieces x = picture(FULL);
        due("box(0, 63, 1) of all", x.box(0, 63, 1), 0);
        due("box(0, 63, 0) of all", x.box(0, 63, 0), 64);
        due("box(0, 63, 0) of none", x.box(0, 63, 0), 0);
        x = picture(BOARD);
        due("box(0, 63, 1) of the board", x.box(0, 63, 1), 32);
        duePicture("box(0, 63, 1)", x, ALL);
    }

    private static void boxOutsideRange() {
        about("promise 4: BAD_ARG if from or to is not 0 to 63, or v not 0 or 1");
        for (long start : new long[] {0L, ALL, digits(SAMPLE)}) {
            for (int cell : WRONG_CELLS) {
                CellPieces x = picture(start);
                for (int v = 0; v <= 1; v++) {
                    due("box(" + cell + ", 63, " + v + ")", x.box(cell, 63, v), BAD_ARG);
                    due("box(0, " + cell + ", " + v + ")", x.box(0, cell, v), BAD_ARG);
                    due("box(" + cell + " .., " + v + ")", x.box(cell, cell, v), BAD_ARG);
                }
                duePicture("box with " + cell, x, start);
            }
            for (int v : WRONG_VALUES) {
                CellPieces x = picture(start);
                due("box(0, 63, " + v + ")", x.box(0, 63, v), BAD_ARG);
                due("box(9, 9, " + v + ")", x.box(9, 9, v), BAD_ARG);
                due("box(0, 0, " + v + ")", x.box(0, 0, v), BAD_ARG);
                duePicture("box with v " + v, x, start);
            }
        }
    }

    private static void boxWithMoreThanOneWrong() {
        about("promise 4: BAD_ARG where more than one thing is wrong");
        for (int v : WRONG_VALUES) {
            CellPieces x = picture(SAMPLE);
            due("box(63, 0, " + v + ")", x.box(63, 0, v), BAD_ARG);
            due("box(7, 62, " + v + ")", x.box(7, 62, v), BAD_ARG);
            due("box(8, 7, " + v + ")", x.box(8, 7, v), BAD_ARG);
            for (int cell : WRONG_CELLS) {
                due("box(" + cell + ", 63, " + v + ")", x.box(cell, 63, v), BAD_ARG);
                due("box(0, " + cell + ", " + v + ")", x.box(0, cell, v), BAD_ARG);
                due("box(" + cell + " .., " + v + ")", x.box(cell, cell, v), BAD_ARG);
            }
            duePicture("box with v " + v, x, SAMPLE);
        }
        for (int from : WRONG_CELLS) {
            CellPieces x = picture(SAMPLE);
            for (int to : WRONG_CELLS) {
                due("box(" + from + ", " + to + ", 1)", x.box(from, to, 1), BAD_ARG);
                due("box(" + from + ", " + to + ", 0)", x.box(from, to, 0), BAD_ARG);
            }
            duePicture("box from " + from, x, SAMPLE);
        }
    }

    private static void cellsFromNoneToAll() {
        about("promise 5: How many cells are on");
        long on = 0;
        CellPieces x = new CellPieces();
        due("cells() of none", x.cells(), 0);
        for (int step = 0; step < 64; step++) {
            int cell = step * 37 % 64;
            x.turn(cell);
            on |= 1L << cell;
            due("cells()", x.cells(), step + 1);
            due("cells() of cell " + cell + " alone", picture(1L << cell).cells(), 1);
            due("cells() of all but " + cell, picture(~(1L << cell)).cells(), 63);
        }
        duePicture("turns", x, on);
    }

    private static void piecesFewestAndMost() {
        about("promise 6: The number of pieces");
        for (int mode : MODES) {
            due("pieces(" + mode + ") of none", picture(EMPTY).pieces(mode), 0);
            due("pieces(" + mode + ") of all", picture(FULL).pieces(mode), 1);
            due("pieces(" + mode + ") of cells apart", picture(APART).pieces(mode), 16);
            due("pieces(" + mode + ") of cells apart, at the other corner",
                    picture(APART << 9).pieces(mode), 16);
            due("pieces(" + mode + ") of the corners",
                    picture(0x8100000000000081L).pieces(mode), 4);
            for (int cell = 0; cell < 64; cell++) {
                due("pieces(" + mode + ") of " + cell, picture(1L << cell).pieces(mode), 1);
            }
        }
        due("pieces(4) of the board", picture(BOARD_CELLS).pieces(4), 32);
        due("pieces(8) of the board", picture(BOARD_CELLS).pieces(8), 1);
        due("pieces(4) of the other board", picture(~BOARD_CELLS).pieces(4), 32);
        due("pieces(8) of the other board", picture(~BOARD_CELLS).pieces(8), 1);
        CellPieces cornerCutOff = picture(~(1L << 1 | 1L << 8));
        due("pieces(4) where a corner is cut off", cornerCutOff.pieces(4), 2);
        due("pieces(8) where it hangs by its own corner", cornerCutOff.pieces(8), 1);
    }

    private static void holesFewestAndMost() {
        about("promise 7: The number of holes");
        for (int mode : MODES) {
            due("holes(" + mode + ") of none", picture(EMPTY).holes(mode), 0);
            due("holes(" + mode + ") of all", picture(FULL).holes(mode), 0);
            due("holes(" + mode + ") of nine", picture(~(APART << 9 & INNER)).holes(mode), 9);
            due("holes(" + mode + ") of the corners off",
                    picture(0x7EFFFFFFFFFFFF7EL).holes(mode), 0);
            // A ring with another one in it: what is between them is one hole, its inside the next.
            CellPieces rings = picture("########", "#......#", "#.####.#", "#.#..#.#",
                    "#.#..#.#", "#.####.#", "#......#", "########");
            due("holes(" + mode + ") of rings", rings.holes(mode), 2);
            due("pieces(" + mode + ") of rings", rings.pieces(mode), 2);
        }
        due("holes(4) of the board", picture(BOARD_CELLS).holes(4), 0);
        due("holes(8) of the board", picture(BOARD_CELLS).holes(8), 18);
        due("holes(8) of the other board", picture(~BOARD_CELLS).holes(8), 18);
    }

    private static void balanceLikeACode() {
        about("promise 8: The number of pieces less the number of holes");
        // Up to nine holes that don't touch: the answers -1 and -4 are no codes here.
        long on = ALL;
        long holes = APART << 9 & INNER;
        int made = 0;
        for (int cell = 0; cell < 64; cell++) {
            if (has(holes, cell)) {
                on &= ~(1L << cell);
                made++;
                due("balance(4) with holes: " + made, picture(on).balance(4), 1 - made);
                due("balance(8) with holes: " + made, picture(on).balance(8), 1 - made);
            }
        }
        due("balance(8), the least", picture(BOARD_CELLS).balance(8), -17);
        due("balance(4), the greatest", picture(BOARD_CELLS).balance(4), 32);
        due("balance(4) of none", picture(EMPTY).balance(4), 0);
        due("balance(8) of none", picture(EMPTY).balance(8), 0);
        due("balance(4) of all", picture(FULL).balance(4), 1);
        due("balance(8) of all", picture(FULL).balance(8), 1);
    }

    private static void pieceLeastNumber() {
        about("promise 9: The least number of a cell of the piece that has this cell");
        for (int mode : MODES) {
            CellPieces full = picture(FULL);
            CellPieces apart = picture(APART);
            for (int cell = 0; cell < 64; cell++) {
                due("piece(" + mode + ", " + cell + ") of all", full.piece(mode, cell), 0);
                due("piece(" + mode + ", " + cell + ") of cells apart", apart.piece(mode, cell),
                        has(APART, cell) ? cell : NONE);
                due("piece(" + mode + ", " + cell + ") of itself",
                        picture(1L << cell).piece(mode, cell), cell);
            }
            // The least number is not the one of the leftmost cell, nor of the first line's end.
            CellPieces x = picture("........", "......##", "......#.", "#######.",
                    "#.......", "........", "........", "........");
            for (int cell : new int[] {14, 15, 22, 24, 30, 32}) {
                due("piece(" + mode + ", " + cell + ")", x.piece(mode, cell), 14);
            }
        }
        CellPieces board = picture(BOARD_CELLS);
        for (int cell = 0; cell < 64; cell++) {
            boolean isOn = has(BOARD_CELLS, cell);
            due("piece(4, " + cell + ") of the board", board.piece(4, cell), isOn ? cell : NONE);
            due("piece(8, " + cell + ") of the board", board.piece(8, cell), isOn ? 0 : NONE);
        }
    }

    private static void pieceOfNone() {
        about("promise 9: NONE if it is off or not 0 to 63");
        for (int mode : MODES) {
            CellPieces full = picture(FULL);
            CellPieces empty = picture(EMPTY);
            for (int cell : WRONG_CELLS) {
                due("piece(" + mode + ", " + cell + ") of all", full.piece(mode, cell), NONE);
                due("piece(" + mode + ", " + cell + ") of none", empty.piece(mode, cell), NONE);
            }
            for (int cell = 0; cell < 64; cell++) {
                due("piece(" + mode + ", " + cell + ") of none", empty.piece(mode, cell), NONE);
                due("piece(" + mode + ", " + cell + ") of all but it",
                        picture(~(1L << cell)).piece(mode, cell), NONE);
            }
            due("cells() after piece", full.cells(), 64);
            due("cells() after piece", empty.cells(), 0);
        }
    }

    private static void sizeLeastAndGreatest() {
        about("promise 10: How many cells the piece that has this cell has");
        for (int mode : MODES) {
            CellPieces full = picture(FULL);
            for (int cell = 0; cell < 64; cell++) {
                due("size(" + mode + ", " + cell + ") of all", full.size(mode, cell), 64);
                due("size(" + mode + ", " + cell + ") of itself",
                        picture(1L << cell).size(mode, cell), 1);
                due("size(" + mode + ", " + cell + ") of all but another",
                        picture(~(1L << (cell ^ 63))).size(mode, cell), 63);
            }
        }
        CellPieces cornerCutOff = picture(~(1L << 1 | 1L << 8));
        due("size(4, 0), cut off", cornerCutOff.size(4, 0), 1);
        due("size(4, 63), cut off", cornerCutOff.size(4, 63), 61);
        due("size(8, 0), not cut off", cornerCutOff.size(8, 0), 62);
    }

    private static void sizeOfNone() {
        about("promise 10: NONE as for piece");
        for (int mode : MODES) {
            CellPieces full = picture(FULL);
            CellPieces empty = picture(EMPTY);
            for (int cell : WRONG_CELLS) {
                due("size(" + mode + ", " + cell + ") of all", full.size(mode, cell), NONE);
                due("size(" + mode + ", " + cell + ") of none", empty.size(mode, cell), NONE);
            }
            for (int cell = 0; cell < 64; cell++) {
                due("size(" + mode + ", " + cell + ") of none", empty.size(mode, cell), NONE);
                due("size(" + mode + ", " + cell + ") of all but it",
                        picture(~(1L << cell)).size(mode, cell), NONE);
            }
            due("cells() after size", full.cells(), 64);
            due("cells() after size", empty.cells(), 0);
        }
    }

    private static void largestLeastAndGreatest() {
        about("promise 11: How many cells the largest piece has; 0 if all cells are off");
        for (int mode : MODES) {
            due("largest(" + mode + ") of none", picture(EMPTY).largest(mode), 0);
            due("largest(" + mode + ") of all", picture(FULL).largest(mode), 64);
            due("largest(" + mode + ") of cells apart", picture(APART).largest(mode), 1);
            for (int cell = 0; cell < 64; cell++) {
                due("largest(" + mode + ") of " + cell, picture(1L << cell).largest(mode), 1);
                due("largest(" + mode + ") of all but " + cell,
                        picture(~(1L << cell)).largest(mode), 63);
            }
            // The largest one first, in the middle, last, and two of the same size.
            CellPieces first = picture(7L | 3L << 32 | 1L << 63);
            CellPieces middle = picture(1L | 7L << 32 | 3L << 60);
            CellPieces last = picture(1L | 3L << 32 | 7L << 61);
            CellPieces twice = picture(15L | 15L << 60);
            due("largest(" + mode + "), first", first.largest(mode), 3);
            due("largest(" + mode + "), middle", middle.largest(mode), 3);
            due("largest(" + mode + "), last", last.largest(mode), 3);
            due("largest(" + mode + "), twice", twice.largest(mode), 4);
        }
        due("largest(4) of the board", picture(BOARD_CELLS).largest(4), 1);
        due("largest(8) of the board", picture(BOARD_CELLS).largest(8), 32);
    }

    private static void edgeAtBorders() {
        about("promise 12: a cell that is on and one, side by side with it, that is off");
        due("edge() of none", picture(EMPTY).edge(), 0);
        due("edge() of all", picture(FULL).edge(), 32);
        due("edge() of the board", picture(BOARD_CELLS).edge(), 128);
        due("edge() of the other board", picture(~BOARD_CELLS).edge(), 128);
        for (int cell = 0; cell < 64; cell++) {
            int inside = Long.bitCount(nearOnes(4, cell));
            due("edge() of " + cell + " alone", picture(1L << cell).edge(), 4);
            // Its pairs with cells outside are lost, those with cells inside are won.
            due("edge() of all but " + cell, picture(~(1L << cell)).edge(),
                    32 - (4 - inside) + inside);
        }
        for (int i = 0; i < 8; i++) {
            due("edge() of line " + i, picture(255L << 8 * i).edge(), 18);
            due("edge() of column " + i, picture(0x0101010101010101L << i).edge(), 18);
        }
        // The cell between is off, and counts once with each of the two.
        due("edge() of two with one between", picture(5L << 25).edge(), 8);
    }

    private static void growFromEachCell() {
        about("promise 13: Every cell becomes on that is near a cell that is on");
        for (int mode : MODES) {
            for (int cell = 0; cell < 64; cell++) {
                long near = nearOnes(mode, cell);
                CellPieces x = picture(1L << cell);
                due("grow(" + mode + ") of " + cell, x.grow(mode), Long.bitCount(near));
                duePicture("grow(" + mode + ") of " + cell, x, near | 1L << cell);
                CellPieces off = picture(~(1L << cell));
                due("grow(" + mode + ") of all but " + cell, off.grow(mode), 1);
                duePicture("grow(" + mode + ") of all but " + cell, off, ALL);
            }
            CellPieces none = picture(EMPTY);
            due("grow(" + mode + ") of none", none.grow(mode), 0);
            duePicture("grow(" + mode + ") of none", none, 0L);
            CellPieces all = picture(FULL);
            due("grow(" + mode + ") of all", all.grow(mode), 0);
            duePicture("grow(" + mode + ") of all", all, ALL);
        }
    }

    private static void growOneStepOnly() {
        about("promise 13: near a cell that is on, and no further");
        CellPieces sides = new CellPieces();
        CellPieces corners = new CellPieces();
        sides.turn(0);
        corners.turn(0);
        for (int step = 1; step <= 15; step++) {
            long bySides = 0;
            long byCorners = 0;
            for (int cell = 0; cell < 64; cell++) {
                bySides |= distanceBySides(0, cell) <= step ? 1L << cell : 0;
                byCorners |= distanceByTouching(0, cell) <= step ? 1L << cell : 0;
            }
            int before = sides.cells();
            due("grow(4), step " + step, sides.grow(4), Long.bitCount(bySides) - before);
            duePicture("grow(4), step " + step, sides, bySides);
            before = corners.cells();
            due("grow(8), step " + step, corners.grow(8), Long.bitCount(byCorners) - before);
            duePicture("grow(8), step " + step, corners, byCorners);
        }
    }

    private static void shrinkAtBorders() {
        about("promise 14: becomes off that is near a cell that is off (outside ones count)");
        for (int mode : MODES) {
            for (int cell = 0; cell < 64; cell++) {
                CellPieces one = picture(1L << cell);
                due("shrink(" + mode + ") of " + cell, one.shrink(mode), 1);
                duePicture("shrink(" + mode + ") of " + cell, one, 0L);
                long left = INNER & ~(1L << cell | nearOnes(mode, cell));
                CellPieces dented = picture(~(1L << cell));
                due("shrink(" + mode + ") of all but " + cell, dented.shrink(mode),
                        63 - Long.bitCount(left));
                duePicture("shrink(" + mode + ") of all but " + cell, dented, left);
                if (!isAtRim(cell)) {
                    CellPieces around = picture(nearOnes(mode, cell) | 1L << cell);
                    due("shrink(" + mode + ") to " + cell, around.shrink(mode), mode);
                    duePicture("shrink(" + mode + ") to " + cell, around, 1L << cell);
                }
            }
            CellPieces none = picture(EMPTY);
            due("shrink(" + mode + ") of none", none.shrink(mode), 0);
            duePicture("shrink(" + mode + ") of none", none, 0L);
        }
    }

    private static void shrinkOneStepOnly() {
        about("promise 14: near a cell that is off, and no further");
        for (int mode : MODES) {
            CellPieces x = picture(FULL);
            int[] changes = {28, 20, 12, 4, 0};
            for (int step = 0; step < 5; step++) {
                due("shrink(" + mode + "), step " + (step + 1), x.shrink(mode), changes[step]);
                long left = boxOf(step + 1, step + 1, 6 - step, 6 - step);
                duePicture("shrink(" + mode + "), step " + (step + 1), x, left);
            }
        }
        CellPieces cornerOff = picture(~(1L << 27));
        cornerOff.shrink(4);
        due("depth(18), which touches, after shrink(4)", cornerOff.depth(18) > 0 ? 1 : 0, 1);
        CellPieces touched = picture(~(1L << 27));
        touched.shrink(8);
        due("depth(18), which touches, after shrink(8)", touched.depth(18), 0);
    }

    private static void fillNothingAndMost() {
        about("promise 15: All cells of holes become on");
        for (int mode : MODES) {
            for (long start : new long[] {0L, ALL, INNER, 1L, 1L << 63, 0x7EFFFFFFFFFFFF7EL}) {
                CellPieces x = picture(start);
                due("fill(" + mode + ") of no hole", x.fill(mode), 0);
                duePicture("fill(" + mode + ") of no hole", x, start);
            }
            CellPieces ring = picture(~INNER);
            due("fill(" + mode + ") of the greatest hole", ring.fill(mode), 36);
            duePicture("fill(" + mode + ")", ring, ALL);
            for (int cell = 0; cell < 64; cell++) {
                if (!isAtRim(cell)) {
                    long around = nearOnes(12 - mode, cell);
                    CellPieces x = picture(around);
                    due("fill(" + mode + ") around " + cell, x.fill(mode), 1);
                    duePicture("fill(" + mode + ") around " + cell, x, around | 1L << cell);
                }
            }
            checkOpenRings(mode);
        }
    }

    // Out of a ring of eight one gets through a side in both modes, through a corner in mode 4.
    private static void checkOpenRings(int mode) {
        for (int cell = 0; cell < 64; cell++) {
            for (int gap = 0; gap < 64 && !isAtRim(cell); gap++) {
                if (areNear(8, cell, gap)) {
                    long ring = nearOnes(8, cell) & ~(1L << gap);
                    boolean isOpen = mode == 4 || areNear(4, cell, gap);
                    CellPieces x = picture(ring);
                    String words = "fill(" + mode + ") around " + cell + " with the gap " + gap;
                    due(words, x.fill(mode), isOpen ? 0 : 1);
                    duePicture(words, x, isOpen ? ring : ring | 1L << cell);
                }
            }
        }
    }

    private static void fillLeavesNoHole() {
        about("promise 15: All cells of holes, each one's and nothing else's");
        CellPieces x = picture("########", "#......#", "#.####.#", "#.#..#.#",
                "#.#..#.#", "#.####.#", "#......#", "########");
        due("fill(8) of rings", x.fill(8), 24);
        due("holes(8) afterwards", x.holes(8), 0);
        duePicture("fill(8) of rings", x, ALL);
        CellPieces board = picture(BOARD_CELLS);
        due("fill(4) of the board", board.fill(4), 0);
        duePicture("fill(4) of the board", board, BOARD_CELLS);
        due("fill(8) of the board", board.fill(8), 18);
        duePicture("fill(8) of the board", board, BOARD_CELLS | INNER);
        due("fill(8) again", board.fill(8), 0);
    }

    private static void clearAroundEachSize() {
        about("promise 16: All cells of pieces with fewer than n cells become off");
        for (int mode : MODES) {
            for (int members = 0; members <= 64; members++) {
                long on = members == 64 ? ALL : (1L << members) - 1;
                for (int n = 0; n <= 64; n++) {
                    CellPieces x = picture(on);
                    boolean isCleared = members < n;
                    String words = "clear(" + mode + ", " + n + ") of " + members;
                    due(words, x.clear(mode, n), isCleared ? members : 0);
                    duePicture(words, x, isCleared ? 0L : on);
                }
            }
            CellPieces apart = picture(APART);
            due("clear(" + mode + ", 0) of cells apart", apart.clear(mode, 0), 0);
            due("clear(" + mode + ", 1) of cells apart", apart.clear(mode, 1), 0);
            due("clear(" + mode + ", 2) of cells apart", apart.clear(mode, 2), 16);
            duePicture("clear of cells apart", apart, 0L);
        }
        CellPieces board = picture(BOARD_CELLS);
        due("clear(8, 32) of the board", board.clear(8, 32), 0);
        due("clear(4, 1) of the board", board.clear(4, 1), 0);
        due("clear(8, 33) of the board", board.clear(8, 33), 32);
        due("clear(4, 2) of the other board", picture(~BOARD_CELLS).clear(4, 2), 32);
    }

    private static void clearOutsideRange() {
        about("promise 16: BAD_ARG if n is not 0 to 64");
        for (long start : new long[] {0L, ALL, digits(SAMPLE)}) {
            for (int n : WRONG_COUNTS) {
                CellPieces x = picture(start);
                due("clear(4, " + n + ")", x.clear(4, n), BAD_ARG);
                due("clear(8, " + n + ")", x.clear(8, n), BAD_ARG);
                for (int mode : WRONG_MODES) {
                    due("clear(" + mode + ", " + n + ")", x.clear(mode, n), BAD_ARG);
                }
                duePicture("clear(.., " + n + ")", x, start);
            }
        }
    }

    private static void depthOfOffAndBorders() {
        about("promise 17: 0 if it is off; the least number of steps to one that is off");
        for (int off = 0; off < 64; off++) {
            CellPieces x = picture(~(1L << off));
            for (int cell = 0; cell < 64; cell++) {
                int want = Math.min(distanceBySides(off, cell), stepsOut(cell));
                due("depth(" + cell + ") where " + off + " is off", x.depth(cell), want);
            }
            duePicture("depth", x, ~(1L << off));
            CellPieces one = picture(1L << off);
            for (int cell = 0; cell < 64; cell++) {
                due("depth(" + cell + ") where " + off + " is on", one.depth(cell),
                        cell == off ? 1 : 0);
            }
        }
        CellPieces full = picture(FULL);
        for (int cell = 0; cell < 64; cell++) {
            due("depth(" + cell + ") of all", full.depth(cell), stepsOut(cell));
        }
        due("depth(27), the greatest", full.depth(27), 4);
        due("depth(36), the greatest", full.depth(36), 4);
    }

    private static int stepsOut(int cell) {
        int across = Math.min(cell % 8 + 1, 8 - cell % 8);
        int down = Math.min(cell / 8 + 1, 8 - cell / 8);
        return Math.min(across, down);
    }

    private static void depthOutsideRange() {
        about("promise 17: BAD_ARG if it is not 0 to 63");
        for (long start : new long[] {0L, ALL, digits(SAMPLE)}) {
            CellPieces x = picture(start);
            for (int cell : WRONG_CELLS) {
                due("depth(" + cell + ")", x.depth(cell), BAD_ARG);
            }
            duePicture("refused depth", x, start);
        }
    }

    private static void wayOfNoStep() {
        about("promise 18: from a cell to itself, where it is on and where it is off");
        for (int mode : MODES) {
            for (int cell = 0; cell < 64; cell++) {
                String words = "way(" + mode + ", " + cell + ", " + cell + ")";
                due(words + " alone", picture(1L << cell).way(mode, cell, cell), 0);
                due(words + " of all", picture(ALL).way(mode, cell, cell), 0);
                due(words + " of none", picture(0L).way(mode, cell, cell), NONE);
                due(words + " of all but it", picture(~(1L << cell)).way(mode, cell, cell), NONE);
            }
        }
    }

    private static void wayOnAllCells() {
        about("promise 18: The least number of steps, each to a cell near in the mode that is on");
        for (int a = 0; a < 64; a++) {
            CellPieces x = picture(FULL);
            for (int b = 0; b < 64; b++) {
                due("way(4, " + a + ", " + b + ")", x.way(4, a, b), distanceBySides(a, b));
                due("way(8, " + a + ", " + b + ")", x.way(8, a, b), distanceByTouching(a, b));
            }
            duePicture("way", x, ALL);
        }
        // A wall from border to border, then with a gap at its end: no way goes around outside.
        CellPieces wall = picture(~(255L << 24));
        due("way(4, 0, 56) with a wall", wall.way(4, 0, 56), NONE);
        due("way(8, 16, 32) with a wall", wall.way(8, 16, 32), NONE);
        wall.turn(31);
        due("way(4, 0, 56) with a gap", wall.way(4, 0, 56), 21);
        due("way(4, 16, 32) with a gap", wall.way(4, 16, 32), 16);
        due("way(8, 16, 32) with a gap", wall.way(8, 16, 32), 14);
        CellPieces upright = picture(~(0x0101010101010101L << 3));
        due("way(4, 0, 7) with a wall", upright.way(4, 0, 7), NONE);
        due("way(8, 26, 28) with a wall", upright.way(8, 26, 28), NONE);
        upright.turn(59);
        due("way(4, 2, 4) with a gap", upright.way(4, 2, 4), 16);
        due("way(8, 2, 4) with a gap", upright.way(8, 2, 4), 14);
    }

    private static void wayOfNone() {
        about("promise 18: NONE if one of them is off or not 0 to 63");
        for (int mode : MODES) {
            for (int cell : WRONG_CELLS) {
                CellPieces full = picture(FULL);
                CellPieces empty = picture(EMPTY);
                for (int other : new int[] {0, 9, 63}) {
                    due("way(" + mode + ", " + cell + " ..)", full.way(mode, cell, other), NONE);
                    due("way(" + mode + ", .., " + cell + ")", full.way(mode, other, cell), NONE);
                    due("way(" + mode + ", " + cell + " ..), one off, one wrong",
                            empty.way(mode, cell, other), NONE);
                    due("way(" + mode + ", .., " + cell + "), one off, one wrong",
                            empty.way(mode, other, cell), NONE);
                }
                for (int other : WRONG_CELLS) {
                    due("way(" + mode + ", " + cell + ", " + other + ")",
                            full.way(mode, cell, other), NONE);
                }
                due("cells() after way", full.cells(), 64);
                due("cells() after way", empty.cells(), 0);
            }
            for (int off = 0; off < 64; off++) {
                CellPieces x = picture(~(1L << off));
                due("way(" + mode + ", " + off + ", ..) from off", x.way(mode, off, off ^ 1), NONE);
                due("way(" + mode + ", .., " + off + ") to off", x.way(mode, off ^ 1, off), NONE);
            }
            due("way(" + mode + ", 0, 1), both off", picture(EMPTY).way(mode, 0, 1), NONE);
        }
    }
}

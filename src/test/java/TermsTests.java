import java.util.ArrayList;
import java.util.Arrays;
import java.util.List;

/** Each sentence of the document that stands before promise 1 has a test of its own here. */
public final class TermsTests extends Checks {
    private static final int LONGEST_USE = 512;
    private static final String[][] PICTURES = {EMPTY, FULL, SAMPLE, BOARD, SNAKE};
    // The least and the greatest int, each range's ends, and what lies just and far outside of it.
    private static final int[] ALL_SORTS = {
        LOWEST, LOWEST + 1, -65536, -256, -64, -8, -4, -1, 0, 1, 2, 4, 7, 8, 9, 63, 64, 65,
        255, 256, 65536, 1 << 28, 1 << 29, 1 << 30, HIGHEST - 1, HIGHEST};

    private interface Call {
        int on(CellPieces x);
    }

    /** A call, its words, and the answer that is due. */
    private static final class Row {
        final String words;
        final Call call;
        final int want;

        Row(String words, Call call, int want) {
            this.words = words;
            this.call = call;
            this.want = want;
        }
    }

    public static void main(String[] args) {
        lastOf512Calls();
        changesLateIn512Calls();
        numberOfCell();
        outsideIsOff();
        sideBySide();
        touching();
        cellIsNotNearItself();
        endsOfLinesAreNotNear();
        topAndBottomAreNotNear();
        otherMode();
        pieceIsGreatestSet();
        pieceGoesOverItsOwnCells();
        holeIsGreatestSet();
        holeIsInsideThePicture();
        holeThatReachesTheRim();
        wrongModeComesFirst();
        noCallThrows();
        refusedCallChangesNothing();
        callsAfterRefusedOne();
        questionChangesNothing();
        constants();
        end();
    }

    // Answers on the sample; each call of the document's face is among them.
    private static List<Row> rightCalls() {
        List<Row> rows = new ArrayList<>(questions());
        rows.add(new Row("turn(18)", x -> x.turn(18), 1));
        rows.add(new Row("turn(9)", x -> x.turn(9), 0));
        rows.add(new Row("line(1, 129)", x -> x.line(1, 129), 62));
        rows.add(new Row("box(9, 36, 0)", x -> x.box(9, 36, 0), 10));
        rows.add(new Row("box(9, 36, 1)", x -> x.box(9, 36, 1), 6));
        rows.add(new Row("grow(4)", x -> x.grow(4), 32));
        rows.add(new Row("grow(8)", x -> x.grow(8), 36));
        rows.add(new Row("shrink(4)", x -> x.shrink(4), 21));
        rows.add(new Row("shrink(8)", x -> x.shrink(8), 21));
        rows.add(new Row("fill(4)", x -> x.fill(4), 0));
        rows.add(new Row("fill(8)", x -> x.fill(8), 6));
        rows.add(new Row("clear(4, 5)", x -> x.clear(4, 5), 3));
        rows.add(new Row("clear(8, 5)", x -> x.clear(8, 5), 1));
        return rows;
    }

    private static List<Row> questions() {
        List<Row> rows = new ArrayList<>();
        rows.add(new Row("cells()", x -> x.cells(), 21));
        rows.add(new Row("pieces(4)", x -> x.pieces(4), 4));
        rows.add(new Row("pieces(8)", x -> x.pieces(8), 3));
        rows.add(new Row("holes(4)", x -> x.holes(4), 0));
        rows.add(new Row("holes(8)", x -> x.holes(8), 1));
        rows.add(new Row("balance(4)", x -> x.balance(4), 4));
        rows.add(new Row("balance(8)", x -> x.balance(8), 2));
        rows.add(new Row("piece(4, 39)", x -> x.piece(4, 39), 38));
        rows.add(new Row("piece(8, 39)", x -> x.piece(8, 39), 9));
        rows.add(new Row("piece(8, 0)", x -> x.piece(8, 0), NONE));
        rows.add(new Row("size(4, 36)", x -> x.size(4, 36), 13));
        rows.add(new Row("size(8, 36)", x -> x.size(8, 36), 15));
        rows.add(new Row("size(8, 0)", x -> x.size(8, 0), NONE));
        rows.add(new Row("largest(4)", x -> x.largest(4), 13));
        rows.add(new Row("largest(8)", x -> x.largest(8), 15));
        rows.add(new Row("edge()", x -> x.edge(), 50));
        rows.add(new Row("depth(0)", x -> x.depth(0), 0));
        rows.add(new Row("depth(9)", x -> x.depth(9), 1));
        rows.add(new Row("way(4, 36, 29)", x -> x.way(4, 36, 29), 12));
        rows.add(new Row("way(8, 36, 29)", x -> x.way(8, 36, 29), 1));
        rows.add(new Row("way(4, 9, 9)", x -> x.way(4, 9, 9), 0));
        rows.add(new Row("way(4, 36, 39)", x -> x.way(4, 36, 39), NONE));
        rows.add(new Row("way(8, 0, 9)", x -> x.way(8, 0, 9), NONE));
        return rows;
    }

    // Refused in every picture.
    private static List<Row> refusedCalls() {
        List<Row> rows = new ArrayList<>();
        refusedForCells(rows);
        refusedLines(rows);
        refusedBoxes(rows);
        for (int n : new int[] {LOWEST, -64, -1, 65, 66, 128, HIGHEST}) {
            rows.add(new Row("clear(4, " + n + ")", x -> x.clear(4, n), BAD_ARG));
            rows.add(new Row("clear(8, " + n + ")", x -> x.clear(8, n), BAD_ARG));
        }
        for (int mode : WRONG_MODES) {
            refusedForMode(rows, mode, 9, 33, 64);
        }
        // Both the mode and what follows it are wrong.
        refusedForMode(rows, 5, -1, 64, 65);
        refusedForMode(rows, LOWEST, LOWEST, HIGHEST, LOWEST);
        refusedForMode(rows, HIGHEST, HIGHEST, LOWEST, HIGHEST);
        return rows;
    }

    private static void refusedForMode(List<Row> rows, int mode, int a, int b, int n) {
        String words = "(" + mode + " ..)";
        rows.add(new Row("pieces" + words, x -> x.pieces(mode), BAD_ARG));
        rows.add(new Row("holes" + words, x -> x.holes(mode), BAD_ARG));
        rows.add(new Row("balance" + words, x -> x.balance(mode), BAD_ARG));
        rows.add(new Row("piece" + words, x -> x.piece(mode, a), BAD_ARG));
        rows.add(new Row("size" + words, x -> x.size(mode, a), BAD_ARG));
        rows.add(new Row("largest" + words, x -> x.largest(mode), BAD_ARG));
        rows.add(new Row("grow" + words, x -> x.grow(mode), BAD_ARG));
        rows.add(new Row("shrink" + words, x -> x.shrink(mode), BAD_ARG));
        rows.add(new Row("fill" + words, x -> x.fill(mode), BAD_ARG));
        rows.add(new Row("clear" + words, x -> x.clear(mode, n), BAD_ARG));
        rows.add(new Row("way" + words, x -> x.way(mode, a, b), BAD_ARG));
    }

    private static void refusedForCells(List<Row> rows) {
        for (int cell : WRONG_CELLS) {
            rows.add(new Row("turn(" + cell + ")", x -> x.turn(cell), BAD_ARG));
            rows.add(new Row("depth(" + cell + ")", x -> x.depth(cell), BAD_ARG));
            for (int mode : MODES) {
                String words = "(" + mode + ", " + cell + " ..)";
                rows.add(new Row("piece" + words, x -> x.piece(mode, cell), NONE));
                rows.add(new Row("size" + words, x -> x.size(mode, cell), NONE));
                rows.add(new Row("way to" + words, x -> x.way(mode, 9, cell), NONE));
                rows.add(new Row("way from" + words, x -> x.way(mode, cell, 9), NONE));
                rows.add(new Row("way from and to" + words, x -> x.way(mode, cell, cell), NONE));
            }
        }
    }

    private static void refusedLines(List<Row> rows) {
        int[] wrongLines = {LOWEST, -8, -1, 8, 9, 1 << 28, 1 << 29, HIGHEST};
        int[] wrongSets = {LOWEST, -256, -1, 256, 257, 511, 65536, HIGHEST};
        for (int y : wrongLines) {
            rows.add(new Row("line(" + y + ", 85)", x -> x.line(y, 85), BAD_ARG));
            for (int set : wrongSets) {
                rows.add(new Row("line(" + y + ", " + set + ")", x -> x.line(y, set), BAD_ARG));
            }
        }
        for (int set : wrongSets) {
            rows.add(new Row("line(0, " + set + ")", x -> x.line(0, set), BAD_ARG));
            rows.add(new Row("line(7, " + set + ")", x -> x.line(7, set), BAD_ARG));
        }
    }

    private static void refusedBoxes(List<Row> rows) {
        int[][] boxes = {
            {-1, 63, 1}, {-1, 63, 0}, {0, 64, 1}, {0, 64, 0}, {LOWEST, 63, 1}, {0, HIGHEST, 1},
            {0, LOWEST, 0}, {HIGHEST, 63, 0}, {64, 64, 1}, {-1, -1, 1}, {-8, -1, 1}, {64, 71, 1},
            {1, 8, 1}, {1, 8, 0}, {7, 62, 1}, {7, 62, 0}, {8, 7, 1}, {8, 7, 0}, {56, 55, 1},
            {63, 0, 1}, {63, 0, 0}, {0, 63, -1}, {0, 63, 2}, {0, 63, LOWEST}, {0, 63, HIGHEST},
            {0, 63, 256}, {0, 63, 257}, {9, 9, 2}, {9, 9, -1}, {-1, 64, 1}, {-1, 63, 2},
            {0, 64, -1}, {-1, 64, 2}, {64, -1, -1}, {63, 0, 2}, {1, 8, -1}, {8, 7, 2},
            {LOWEST, LOWEST, LOWEST}, {HIGHEST, HIGHEST, HIGHEST}, {LOWEST, HIGHEST, 1}};
        for (int[] b : boxes) {
            rows.add(new Row("box" + Arrays.toString(b), x -> x.box(b[0], b[1], b[2]), BAD_ARG));
        }
    }

    // At most 346 calls: all that can be asked of a picture, one way excepted.
    private static int[] allAnswers(CellPieces x) {
        List<Integer> answers = new ArrayList<>();
        long on = read(x);
        answers.add((int) on);
        answers.add((int) (on >>> 32));
        answers.add(x.cells());
        answers.add(x.edge());
        for (int mode : MODES) {
            answers.add(x.pieces(mode));
            answers.add(x.holes(mode));
            answers.add(x.balance(mode));
            answers.add(x.largest(mode));
            for (int cell = 0; cell < 64; cell++) {
                answers.add(x.piece(mode, cell));
                answers.add(x.size(mode, cell));
            }
        }
        for (int cell = 0; cell < 64; cell++) {
            answers.add(x.depth(cell));
        }
        return answers.stream().mapToInt(Integer::intValue).toArray();
    }

    private static void lastOf512Calls() {
        about("An object is used for at most 512 calls");
        for (Row row : rightCalls()) {
            CellPieces asked = picture(SAMPLE);
            CellPieces turned = picture(SAMPLE);
            CellPieces refused = picture(SAMPLE);
            turned.edge();
            for (int calls = 8; calls < LONGEST_USE - 1; calls++) {
                asked.cells();
                refused.turn(64);
            }
            for (int calls = 9; calls < LONGEST_USE - 1; calls += 2) {
                turned.turn(calls % 64);
                turned.turn(calls % 64);
            }
            due(row.words + " as 512th call", row.call.on(asked), row.want);
            due(row.words + " as 512th call after turns", row.call.on(turned), row.want);
            due(row.words + " as 512th call after refused ones", row.call.on(refused), row.want);
        }
    }

    private static void changesLateIn512Calls() {
        about("An object is used for at most 512 calls");
        for (Row row : rightCalls()) {
            CellPieces early = picture(SAMPLE);
            row.call.on(early);
            long want = read(early);
            CellPieces late = picture(SAMPLE);
            for (int calls = 8; calls < LONGEST_USE - 17; calls++) {
                late.grow(0);
            }
            row.call.on(late);
            duePicture(row.words + " as 496th call", late, want);
        }
        CellPieces x = new CellPieces();
        for (int calls = 1; calls <= LONGEST_USE; calls += 4) {
            due("box(0, 63, 1), call " + calls, x.box(0, 63, 1), 64);
            due("shrink(4), call " + (calls + 1), x.shrink(4), 28);
            due("grow(8), call " + (calls + 2), x.grow(8), 28);
            due("box(0, 63, 0), call " + (calls + 3), x.box(0, 63, 0), 64);
        }
    }

    private static void numberOfCell() {
        about("the number of a cell is 8 y + x (0 to 63)");
        for (int y = 0; y < 8; y++) {
            for (int column = 0; column < 8; column++) {
                int cell = 8 * y + column;
                CellPieces turned = new CellPieces();
                due("turn(" + cell + ")", turned.turn(cell), 1);
                due("line(" + y + ", 0)", turned.line(y, 0), 1 << column);
                due("cells()", turned.cells(), 0);
                CellPieces x = new CellPieces();
                x.line(y, 1 << column);
                for (int mode : MODES) {
                    due("piece(" + mode + ", " + cell + ")", x.piece(mode, cell), cell);
                    due("size(" + mode + ", " + cell + ")", x.size(mode, cell), 1);
                    due("way(" + mode + ", " + cell + " ..)", x.way(mode, cell, cell), 0);
                }
                due("depth(" + cell + ")", x.depth(cell), 1);
                due("box(" + cell + ", " + cell + ", 0)", x.box(cell, cell, 0), 1);
                due("cells()", x.cells(), 0);
            }
        }
    }

    private static void outsideIsOff() {
        about("Cells outside are off");
        due("edge() of all", picture(FULL).edge(), 32);
        for (int mode : MODES) {
            due("shrink(" + mode + ") of all", picture(FULL).shrink(mode), 28);
            due("grow(" + mode + ") of none", picture(EMPTY).grow(mode), 0);
            CellPieces x = picture(FULL);
            due("way(" + mode + ", -1, 0)", x.way(mode, -1, 0), NONE);
            due("way(" + mode + ", 63, 64)", x.way(mode, 63, 64), NONE);
            due("piece(" + mode + ", -1)", x.piece(mode, -1), NONE);
            due("size(" + mode + ", 64)", x.size(mode, 64), NONE);
        }
        CellPieces x = picture(FULL);
        for (int cell = 0; cell < 64; cell++) {
            due("is depth(" + cell + ") 1", x.depth(cell) == 1 ? 1 : 0, isAtRim(cell) ? 1 : 0);
        }
    }

    private static void sideBySide() {
        about("SIDE BY SIDE if one of x, y is the same and the other differs by 1");
        checkAllPairs(4);
        for (int a = 0; a < 64; a++) {
            for (int b = 0; b < 64; b++) {
                int want = a == b ? 4 : areNear(4, a, b) ? 6 : 8;
                due("edge() of " + a + " and " + b, picture(1L << a | 1L << b).edge(), want);
            }
        }
    }

    private static void touching() {
        about("they TOUCH if neither x nor y differs by more than 1");
        checkAllPairs(8);
    }

    private static void checkAllPairs(int mode) {
        for (int a = 0; a < 64; a++) {
            for (int b = a + 1; b < 64; b++) {
                boolean near = areNear(mode, a, b);
                String words = " of " + a + " and " + b + " in mode " + mode;
                CellPieces x = picture(1L << a | 1L << b);
                due("pieces" + words, x.pieces(mode), near ? 1 : 2);
                due("piece" + words, x.piece(mode, b), near ? a : b);
                due("size" + words, x.size(mode, a), near ? 2 : 1);
                due("largest" + words, x.largest(mode), near ? 2 : 1);
                due("way" + words, x.way(mode, a, b), near ? 1 : NONE);
                due("way back" + words, x.way(mode, b, a), near ? 1 : NONE);
                due("clear" + words, x.clear(mode, 2), near ? 0 : 2);
            }
            CellPieces x = picture(1L << a);
            due("grow of " + a + " in mode " + mode, x.grow(mode),
                    Long.bitCount(nearOnes(mode, a)));
            duePicture("grow of " + a + " in mode " + mode, x, 1L << a | nearOnes(mode, a));
        }
    }

    private static void cellIsNotNearItself() {
        about("Two different cells");
        for (int cell = 0; cell < 64; cell++) {
            for (int mode : MODES) {
                CellPieces x = picture(1L << cell);
                due("pieces(" + mode + ") of one cell", x.pieces(mode), 1);
                due("way of no step, mode " + mode, x.way(mode, cell, cell), 0);
                due("edge() of one cell", x.edge(), 4);
            }
        }
    }

    private static void endsOfLinesAreNotNear() {
        about("a cell at the right end of a line is not near the left end of another line");
        for (int y = 0; y < 8; y++) {
            for (int other = 0; other < 8; other++) {
                checkApart(8 * y + 7, 8 * other);
            }
        }
        for (int mode : MODES) {
            CellPieces right = picture(0x8080808080808080L);
            due("grow(" + mode + ") of the right column", right.grow(mode), 8);
            duePicture("grow of the right column", right, 0xC0C0C0C0C0C0C0C0L);
            CellPieces left = picture(0x0101010101010101L);
            due("grow(" + mode + ") of the left column", left.grow(mode), 8);
            duePicture("grow of the left column", left, 0x0303030303030303L);
            CellPieces both = picture(0x8181818181818181L);
            due("pieces(" + mode + ") of both columns", both.pieces(mode), 2);
            due("largest(" + mode + ") of both columns", both.largest(mode), 8);
            due("size(" + mode + ", 8) of both columns", both.size(mode, 8), 8);
            due("piece(" + mode + ", 56) of both columns", both.piece(mode, 56), 0);
            due("piece(" + mode + ", 63) of both columns", both.piece(mode, 63), 7);
            due("way(" + mode + ", 7, 8) of both columns", both.way(mode, 7, 8), NONE);
            due("edge() of both columns", both.edge(), 36);
        }
    }

    private static void topAndBottomAreNotNear() {
        about("a cell of the first line is not near one of the last line");
        for (int column = 0; column < 8; column++) {
            for (int other = 0; other < 8; other++) {
                checkApart(column, 56 + other);
            }
        }
        for (int mode : MODES) {
            CellPieces both = picture(0xFF000000000000FFL);
            due("pieces(" + mode + ") of both lines", both.pieces(mode), 2);
            due("largest(" + mode + ") of both lines", both.largest(mode), 8);
            due("edge() of both lines", both.edge(), 36);
            due("grow(" + mode + ") of both lines", both.grow(mode), 16);
            duePicture("grow of both lines", both, 0xFFFF00000000FFFFL);
        }
    }

    private static void checkApart(int a, int b) {
        String words = " of " + a + " and " + b;
        CellPieces x = picture(1L << a | 1L << b);
        for (int mode : MODES) {
            due("pieces" + words, x.pieces(mode), 2);
            due("balance" + words, x.balance(mode), 2);
            due("size" + words, x.size(mode, b), 1);
            due("piece" + words, x.piece(mode, a), a);
            due("piece" + words, x.piece(mode, b), b);
            due("way" + words, x.way(mode, a, b), NONE);
            due("way back" + words, x.way(mode, b, a), NONE);
        }
        due("edge" + words, x.edge(), 8);
    }

    private static void otherMode() {
        about("the OTHER mode of 4 is 8, and of 8 is 4");
        // A piece of four that hang together by corners alone, around one cell.
        CellPieces x = picture("........", "........", "...#....", "..#.#...",
                "...#....", "........", "........", "........");
        due("pieces(4)", x.pieces(4), 4);
        due("holes(4)", x.holes(4), 0);
        due("balance(4)", x.balance(4), 4);
        due("pieces(8)", x.pieces(8), 1);
        due("holes(8)", x.holes(8), 1);
        due("balance(8)", x.balance(8), 0);
        due("fill(4)", x.fill(4), 0);
        due("fill(8)", x.fill(8), 1);
    }

    private static void pieceIsGreatestSet() {
        about("A PIECE in a mode is a greatest set of cells that are on");
        CellPieces full = picture(FULL);
        CellPieces empty = picture(EMPTY);
        for (int mode : MODES) {
            due("pieces(" + mode + ") of all", full.pieces(mode), 1);
            due("pieces(" + mode + ") of none", empty.pieces(mode), 0);
            due("size(" + mode + ", 0) of all", full.size(mode, 0), 64);
            due("size(" + mode + ", 63) of all", full.size(mode, 63), 64);
        }
        // The longest ways that there are: no cell is left out at their far ends.
        CellPieces sides = picture("###.###.", "#.#.#.##", "#.#.##.#", "#.##.#.#",
                "##.###.#", ".##....#", "#..###.#", "####.###");
        due("pieces(4) of the longest", sides.pieces(4), 1);
        due("size(4, 48) of the longest", sides.size(4, 48), 42);
        due("size(4, 42) of the longest", sides.size(4, 42), 42);
        due("largest(4) of the longest", sides.largest(4), 42);
        due("piece(4, 48) of the longest", sides.piece(4, 48), 0);
        due("way(4, 48, 42) of the longest", sides.way(4, 48, 42), 41);
        due("clear(4, 42) of the longest", sides.clear(4, 42), 0);
        CellPieces corners = picture(".######.", "#......#", "#..##..#", "#.#..#.#",
                "#.#.#..#", "#.#.#..#", "#.#....#", "#..####.");
        due("pieces(8) of the longest", corners.pieces(8), 1);
        due("size(8, 44) of the longest", corners.size(8, 44), 32);
        due("size(8, 56) of the longest", corners.size(8, 56), 32);
        due("largest(8) of the longest", corners.largest(8), 32);
        due("piece(8, 44) of the longest", corners.piece(8, 44), 1);
        due("way(8, 44, 56) of the longest", corners.way(8, 44, 56), 31);
        due("clear(8, 32) of the longest", corners.clear(8, 32), 0);
    }

    private static void pieceGoesOverItsOwnCells() {
        about("one can get from each to each over cells of the set");
        CellPieces x = picture("##.##...", "........", "........", "#.#.....",
                "........", "#.......", "........", "#......#");
        for (int mode : MODES) {
            due("pieces(" + mode + ") over gaps", x.pieces(mode), 7);
            due("largest(" + mode + ") over gaps", x.largest(mode), 2);
            due("way(" + mode + ", 1, 3) over a gap", x.way(mode, 1, 3), NONE);
            due("way(" + mode + ", 24, 40) over a gap", x.way(mode, 24, 40), NONE);
        }
    }

    private static void holeIsGreatestSet() {
        about("A HOLE is a greatest set of cells that are off, connected by the other mode");
        for (int a = 0; a < 64; a++) {
            for (int b = a + 1; b < 64; b++) {
                for (int mode : MODES) {
                    boolean one = areNear(12 - mode, a, b);
                    int rims = (isAtRim(a) ? 1 : 0) + (isAtRim(b) ? 1 : 0);
                    int want = one ? rims == 0 ? 1 : 0 : 2 - rims;
                    String words = " where " + a + " and " + b + " are off, mode " + mode;
                    CellPieces x = picture(~(1L << a | 1L << b));
                    due("holes" + words, x.holes(mode), want);
                    due("fill" + words, x.fill(mode), one ? 2 * want : want);
                }
            }
        }
        CellPieces winding = picture("########", "#.#...##", "#.#.#.##", "#.#.#.##",
                "#.#.#.##", "#.#.#.##", "#...#.##", "########");
        for (int mode : MODES) {
            due("holes(" + mode + ") of a winding one", winding.holes(mode), 1);
            due("balance(" + mode + ") of a winding one", winding.balance(mode), 0);
        }
        due("fill(8) of a winding one", winding.fill(8), 20);
    }

    private static void holeIsInsideThePicture() {
        about("of which no cell has x or y 0 or 7");
        for (int cell = 0; cell < 64; cell++) {
            int want = isAtRim(cell) ? 0 : 1;
            for (int mode : MODES) {
                String words = " where " + cell + " is off, mode " + mode;
                CellPieces x = picture(~(1L << cell));
                due("holes" + words, x.holes(mode), want);
                due("fill" + words, x.fill(mode), want);
                duePicture("fill" + words, x, want == 1 ? -1L : ~(1L << cell));
            }
        }
        for (int mode : MODES) {
            due("holes(" + mode + ") of none", picture(EMPTY).holes(mode), 0);
            due("holes(" + mode + ") of all", picture(FULL).holes(mode), 0);
            // The ring at the rim itself: what it closes in is the greatest hole there is.
            CellPieces ring = picture(0xFF818181818181FFL);
            due("holes(" + mode + ") of the rim", ring.holes(mode), 1);
            due("fill(" + mode + ") of the rim", ring.fill(mode), 36);
        }
    }

    private static void holeThatReachesTheRim() {
        about("so that one can't get out over cells that are off");
        CellPieces winding = picture("#.######", "#.#...##", "#.#.#.##", "#.#.#.##",
                "#.#.#.##", "#.#.#.##", "#...#.##", "########");
        for (int mode : MODES) {
            due("holes(" + mode + ") of a long way out", winding.holes(mode), 0);
            due("fill(" + mode + ") of a long way out", winding.fill(mode), 0);
        }
        // In mode 4 one gets out over the corner, in mode 8 not.
        int[][] corners = {{0, 9}, {7, 14}, {56, 49}, {63, 54}};
        for (int[] pair : corners) {
            CellPieces x = picture(~(1L << pair[0] | 1L << pair[1]));
            due("holes(4) at the corner " + pair[0], x.holes(4), 0);
            due("fill(4) at the corner " + pair[0], x.fill(4), 0);
            due("holes(8) at the corner " + pair[0], x.holes(8), 1);
            due("fill(8) at the corner " + pair[0], x.fill(8), 1);
        }
    }

    private static void wrongModeComesFirst() {
        about("a mode that is not 4 or 8 answers BAD_ARG before anything else");
        int[] cells = {LOWEST, -1, 0, 9, 63, 64, HIGHEST};
        int[] counts = {LOWEST, -1, 0, 64, 65, HIGHEST};
        for (String[] rows : PICTURES) {
            for (int mode : wrongModes()) {
                CellPieces x = picture(rows);
                List<Row> calls = new ArrayList<>();
                for (int i = 0; i < cells.length; i++) {
                    int n = counts[i % counts.length];
                    refusedForMode(calls, mode, cells[i], cells[(i + 3) % cells.length], n);
                }
                for (Row row : calls) {
                    due(row.words, row.call.on(x), BAD_ARG);
                }
                duePicture("calls with mode " + mode, x, rows);
            }
        }
    }

    private static List<Integer> wrongModes() {
        List<Integer> modes = new ArrayList<>();
        for (int mode = -70; mode <= 70; mode++) {
            if (mode != 4 && mode != 8) {
                modes.add(mode);
            }
        }
        for (int mode : WRONG_MODES) {
            modes.add(mode);
        }
        return modes;
    }

    private static void noCallThrows() {
        about("No call ever throws");
        for (String[] rows : PICTURES) {
            long on = digits(rows);
            for (int a : ALL_SORTS) {
                checkEnds("of one argument " + a, () -> callsOfOne(picture(on), a));
                for (int b : ALL_SORTS) {
                    checkEnds("of two arguments " + a + ", " + b,
                            () -> callsOfTwo(picture(on), a, b));
                    for (int c : ALL_SORTS) {
                        checkEnds("of three arguments " + a + ", " + b + ", " + c,
                                () -> callsOfThree(picture(on), a, b, c));
                    }
                }
            }
        }
    }

    private static void checkEnds(String words, Runnable calls) {
        try {
            calls.run();
        } catch (Throwable thrown) {
            fault("one of the calls " + words + " threw " + thrown);
        }
    }

    private static void callsOfOne(CellPieces x, int a) {
        x.turn(a);
        x.depth(a);
        x.pieces(a);
        x.holes(a);
        x.balance(a);
        x.largest(a);
        x.fill(a);
        x.grow(a);
        x.shrink(a);
        x.cells();
        x.edge();
    }

    private static void callsOfTwo(CellPieces x, int a, int b) {
        due("is piece an answer", x.piece(a, b) >= NONE ? 1 : 0, 1);
        due("is size an answer", x.size(a, b) >= NONE ? 1 : 0, 1);
        x.clear(a, b);
        boolean isRight = a >= 0 && a <= 7 && b >= 0 && b <= 255;
        due("is line(" + a + ", " + b + ") refused", x.line(a, b) == BAD_ARG ? 1 : 0,
                isRight ? 0 : 1);
    }

    private static void callsOfThree(CellPieces x, int a, int b, int c) {
        int way = x.way(a, b, c);
        boolean isMode = a == 4 || a == 8;
        due("is way(" + a + ", " + b + ", " + c + ") refused", way == BAD_ARG ? 1 : 0,
                isMode ? 0 : 1);
        boolean isBox = a >= 0 && a <= 63 && b >= 0 && b <= 63 && a % 8 <= b % 8 && a / 8 <= b / 8;
        boolean isRight = isBox && (c == 0 || c == 1);
        due("is box(" + a + ", " + b + ", " + c + ") refused",
                x.box(a, b, c) == BAD_ARG ? 1 : 0, isRight ? 0 : 1);
    }

    private static void refusedCallChangesNothing() {
        about("A refused call answers the code named and changes nothing");
        for (String[] rows : PICTURES) {
            checkUnchanged(rows, refusedCalls(), true);
        }
    }

    private static void callsAfterRefusedOne() {
        about("A refused call changes nothing: what comes next is answered as without it");
        List<Row> right = rightCalls();
        for (Row refused : refusedCalls()) {
            for (Row row : right) {
                CellPieces x = picture(SAMPLE);
                refused.call.on(x);
                due(row.words + " after " + refused.words, row.call.on(x), row.want);
            }
        }
    }

    private static void questionChangesNothing() {
        about("a call that only asks changes nothing");
        for (String[] rows : PICTURES) {
            checkUnchanged(rows, questions(), false);
        }
        checkUnchanged(SAMPLE, questions(), true);
    }

    private static void checkUnchanged(String[] rows, List<Row> calls, boolean areAnswersDue) {
        int[] before = allAnswers(picture(rows));
        for (Row row : calls) {
            CellPieces x = picture(rows);
            int got = row.call.on(x);
            if (areAnswersDue) {
                due(row.words, got, row.want);
            }
            if (!Arrays.equals(before, allAnswers(x))) {
                fault(row.words + " changed what is answered after it");
            }
        }
    }

    private static void constants() {
        about("The constants");
        due("BAD_ARG", CellPieces.BAD_ARG, -1);
        due("NONE", CellPieces.NONE, -4);
    }
}

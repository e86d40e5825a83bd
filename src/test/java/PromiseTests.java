/** For each promise: ordinary calls, the edges that the document names, and wrong arguments. */
public final class PromiseTests extends Checks {
    public static void main(String[] args) {
        newObject();
        turn();
        line();
        box();
        cells();
        pieces();
        holes();
        balance();
        piece();
        size();
        largest();
        edge();
        grow();
        shrink();
        fill();
        clear();
        depth();
        way();
        end();
    }

    private static void newObject() {
        about("promise 1");
        CellPieces x = new CellPieces();
        due("cells()", x.cells(), 0);
        duePicture("making", x, EMPTY);
        CellPieces first = picture(FULL);
        CellPieces second = new CellPieces();
        due("cells() of a second object", second.cells(), 0);
        due("cells() of the first object", first.cells(), 64);
    }

    private static void turn() {
        about("promise 2");
        CellPieces x = new CellPieces();
        for (int cell = 0; cell < 64; cell++) {
            due("turn(" + cell + ")", x.turn(cell), 1);
            due("cells()", x.cells(), cell + 1);
        }
        x = picture(EMPTY);
        due("turn(0)", x.turn(0), 1);
        due("turn(63)", x.turn(63), 1);
        due("turn(10)", x.turn(10), 1);
        duePicture("three turns", x, "#.......", "..#.....", "........", "........",
                "........", "........", "........", ".......#");
        due("turn(63) again", x.turn(63), 0);
        due("turn(0) again", x.turn(0), 0);
        due("turn(0) a third time", x.turn(0), 1);
        x = picture(SAMPLE);
        for (int cell : WRONG_CELLS) {
            due("turn(" + cell + ")", x.turn(cell), BAD_ARG);
        }
        duePicture("refused turns", x, SAMPLE);
    }

    private static void line() {
        about("promise 3");
        CellPieces x = picture(SAMPLE);
        due("line(1, 129)", x.line(1, 129), 62);
        due("line(7, 1)", x.line(7, 1), 133);
        due("line(0, 255)", x.line(0, 255), 0);
        due("line(0, 254)", x.line(0, 254), 255);
        due("line(4, 0)", x.line(4, 0), 222);
        due("line(7, 128)", x.line(7, 128), 1);
        duePicture("lines", x, ".#######", "#......#", ".#...#..", ".#...#..",
                "........", "........", "###.....", ".......#");
        x = picture(SAMPLE);
        for (int y : new int[] {LOWEST, -1, 8, 9, 64, HIGHEST}) {
            due("line(" + y + ", 0)", x.line(y, 0), BAD_ARG);
            due("line(" + y + ", 255)", x.line(y, 255), BAD_ARG);
        }
        for (int set : new int[] {LOWEST, -1, 256, 257, 511, 65536, HIGHEST}) {
            due("line(0, " + set + ")", x.line(0, set), BAD_ARG);
            due("line(7, " + set + ")", x.line(7, set), BAD_ARG);
        }
        duePicture("refused lines", x, SAMPLE);
    }

    private static void box() {
        about("promise 4");
        CellPieces x = new CellPieces();
        due("box(10, 37, 1)", x.box(10, 37, 1), 16);
        due("box(9, 19, 1)", x.box(9, 19, 1), 2);
        due("box(63, 63, 1)", x.box(63, 63, 1), 1);
        due("box(63, 63, 1) again", x.box(63, 63, 1), 0);
        due("box(19, 29, 0)", x.box(19, 29, 0), 6);
        due("box(0, 7, 0)", x.box(0, 7, 0), 0);
        due("box(0, 56, 1)", x.box(0, 56, 1), 8);
        duePicture("boxes", x, "#.......", "######..", "###.....", "#.#.....",
                "#.####..", "#.......", "#.......", "#......#");
        due("box(0, 63, 1)", x.box(0, 63, 1), 43);
        duePicture("the whole box", x, FULL);
        due("box(0, 63, 0)", x.box(0, 63, 0), 64);
        duePicture("the whole box off", x, EMPTY);
        x = picture(SAMPLE);
        for (int cell : WRONG_CELLS) {
            due("box(" + cell + ", 63, 1)", x.box(cell, 63, 1), BAD_ARG);
            due("box(0, " + cell + ", 0)", x.box(0, cell, 0), BAD_ARG);
        }
        due("box(1, 8, 1)", x.box(1, 8, 1), BAD_ARG);
        due("box(7, 62, 1)", x.box(7, 62, 1), BAD_ARG);
        due("box(8, 1, 0)", x.box(8, 1, 0), BAD_ARG);
        due("box(56, 55, 0)", x.box(56, 55, 0), BAD_ARG);
        due("box(63, 0, 1)", x.box(63, 0, 1), BAD_ARG);
        for (int v : new int[] {LOWEST, -1, 2, 3, HIGHEST}) {
            due("box(0, 63, " + v + ")", x.box(0, 63, v), BAD_ARG);
        }
        duePicture("refused boxes", x, SAMPLE);
    }

    private static void cells() {
        about("promise 5");
        due("cells() of none", picture(EMPTY).cells(), 0);
        due("cells() of the sample", picture(SAMPLE).cells(), 21);
        due("cells() of all", picture(FULL).cells(), 64);
        CellPieces x = picture(SAMPLE);
        x.cells();
        duePicture("cells()", x, SAMPLE);
    }

    private static void pieces() {
        about("promise 6");
        due("pieces(4) of none", picture(EMPTY).pieces(4), 0);
        due("pieces(8) of none", picture(EMPTY).pieces(8), 0);
        due("pieces(4) of all", picture(FULL).pieces(4), 1);
        due("pieces(4) of the sample", picture(SAMPLE).pieces(4), 4);
        due("pieces(8) of the sample", picture(SAMPLE).pieces(8), 3);
        due("pieces(4) of the board", picture(BOARD).pieces(4), 32);
        due("pieces(8) of the board", picture(BOARD).pieces(8), 1);
        due("pieces(4) of the snake", picture(SNAKE).pieces(4), 1);
        CellPieces ends = picture("#......#", "........", ".......#", "#.......",
                "........", "........", "........", "#......#");
        due("pieces(4) at the borders", ends.pieces(4), 6);
        due("pieces(8) at the borders", ends.pieces(8), 6);
        for (int mode : WRONG_MODES) {
            due("pieces(" + mode + ")", ends.pieces(mode), BAD_ARG);
        }
        CellPieces x = picture(SAMPLE);
        x.pieces(4);
        duePicture("pieces(4)", x, SAMPLE);
    }

    private static void holes() {
        about("promise 7");
        due("holes(4) of none", picture(EMPTY).holes(4), 0);
        due("holes(8) of all", picture(FULL).holes(8), 0);
        due("holes(4) of the sample", picture(SAMPLE).holes(4), 0);
        due("holes(8) of the sample", picture(SAMPLE).holes(8), 1);
        due("holes(4) of the board", picture(BOARD).holes(4), 0);
        due("holes(8) of the board", picture(BOARD).holes(8), 18);
        CellPieces two = picture("........", ".####...", ".#.##...", ".##.#...",
                ".####...", "........", "........", "........");
        due("holes(4) of two that touch", two.holes(4), 1);
        due("holes(8) of two that touch", two.holes(8), 2);
        CellPieces atRim = picture(FULL);
        atRim.turn(3);
        atRim.turn(24);
        atRim.turn(31);
        atRim.turn(59);
        due("holes(4) at the rim", atRim.holes(4), 0);
        due("holes(8) at the rim", atRim.holes(8), 0);
        atRim.turn(9);
        atRim.turn(14);
        atRim.turn(49);
        atRim.turn(54);
        due("holes(4) one from the rim", atRim.holes(4), 4);
        due("holes(8) one from the rim", atRim.holes(8), 4);
        for (int mode : WRONG_MODES) {
            due("holes(" + mode + ")", two.holes(mode), BAD_ARG);
        }
        CellPieces x = picture(SAMPLE);
        x.holes(8);
        duePicture("holes(8)", x, SAMPLE);
    }

    private static void balance() {
        about("promise 8");
        due("balance(4) of none", picture(EMPTY).balance(4), 0);
        due("balance(8) of all", picture(FULL).balance(8), 1);
        due("balance(4) of the sample", picture(SAMPLE).balance(4), 4);
        due("balance(8) of the sample", picture(SAMPLE).balance(8), 2);
        due("balance(4) of the board", picture(BOARD).balance(4), 32);
        due("balance(8) of the board", picture(BOARD).balance(8), -17);
        CellPieces x = picture(SAMPLE);
        for (int mode : WRONG_MODES) {
            due("balance(" + mode + ")", x.balance(mode), BAD_ARG);
        }
        x.balance(4);
        duePicture("balance(4)", x, SAMPLE);
    }

    private static void piece() {
        about("promise 9");
        CellPieces x = picture(SAMPLE);
        due("piece(4, 36)", x.piece(4, 36), 9);
        due("piece(4, 39)", x.piece(4, 39), 38);
        due("piece(8, 39)", x.piece(8, 39), 9);
        due("piece(4, 58)", x.piece(4, 58), 48);
        due("piece(4, 63)", x.piece(4, 63), 63);
        due("piece(8, 63)", x.piece(8, 63), 63);
        due("piece(4, 0)", x.piece(4, 0), NONE);
        due("piece(8, 18)", x.piece(8, 18), NONE);
        due("piece(8, 62)", x.piece(8, 62), NONE);
        due("piece(4, 63) of all", picture(FULL).piece(4, 63), 0);
        due("piece(4, 56) of the snake", picture(SNAKE).piece(4, 56), 0);
        CellPieces leastIsNotAtLeft = picture("....#...", "....#...", "#####...", "........",
                "........", "........", "........", "........");
        due("piece(4, 16)", leastIsNotAtLeft.piece(4, 16), 4);
        CellPieces full = picture(FULL);
        for (int cell : WRONG_CELLS) {
            due("piece(4, " + cell + ")", full.piece(4, cell), NONE);
            due("piece(8, " + cell + ")", full.piece(8, cell), NONE);
            due("piece(5, " + cell + ")", full.piece(5, cell), BAD_ARG);
        }
        for (int mode : WRONG_MODES) {
            due("piece(" + mode + ", 9)", x.piece(mode, 9), BAD_ARG);
            due("piece(" + mode + ", 0)", x.piece(mode, 0), BAD_ARG);
        }
        duePicture("piece", x, SAMPLE);
    }

    private static void size() {
        about("promise 10");
        CellPieces x = picture(SAMPLE);
        due("size(4, 36)", x.size(4, 36), 13);
        due("size(8, 36)", x.size(8, 36), 15);
        due("size(4, 39)", x.size(4, 39), 2);
        due("size(4, 50)", x.size(4, 50), 5);
        due("size(8, 63)", x.size(8, 63), 1);
        due("size(4, 0)", x.size(4, 0), NONE);
        due("size(8, 18)", x.size(8, 18), NONE);
        due("size(4, 63) of all", picture(FULL).size(4, 63), 64);
        due("size(4, 56) of the snake", picture(SNAKE).size(4, 56), 36);
        due("size(8, 63) of the board", picture(BOARD).size(8, 63), 32);
        CellPieces full = picture(FULL);
        for (int cell : WRONG_CELLS) {
            due("size(4, " + cell + ")", full.size(4, cell), NONE);
            due("size(8, " + cell + ")", full.size(8, cell), NONE);
            due("size(5, " + cell + ")", full.size(5, cell), BAD_ARG);
        }
        for (int mode : WRONG_MODES) {
            due("size(" + mode + ", 9)", x.size(mode, 9), BAD_ARG);
            due("size(" + mode + ", 0)", x.size(mode, 0), BAD_ARG);
        }
        duePicture("size", x, SAMPLE);
    }

    private static void largest() {
        about("promise 11");
        due("largest(4) of none", picture(EMPTY).largest(4), 0);
        due("largest(8) of none", picture(EMPTY).largest(8), 0);
        due("largest(4) of all", picture(FULL).largest(4), 64);
        due("largest(4) of the board", picture(BOARD).largest(4), 1);
        due("largest(8) of the board", picture(BOARD).largest(8), 32);
        CellPieces x = picture(SAMPLE);
        due("largest(4)", x.largest(4), 13);
        due("largest(8)", x.largest(8), 15);
        CellPieces lastIsLargest = picture("##......", "........", "........", "........",
                "........", "........", "........", ".....###");
        due("largest(4), the last", lastIsLargest.largest(4), 3);
        for (int cell = 0; cell < 64; cell++) {
            CellPieces one = new CellPieces();
            one.turn(cell);
            due("largest(4) of cell " + cell + " alone", one.largest(4), 1);
            due("largest(8) of cell " + cell + " alone", one.largest(8), 1);
        }
        for (int mode : WRONG_MODES) {
            due("largest(" + mode + ")", x.largest(mode), BAD_ARG);
        }
        duePicture("largest", x, SAMPLE);
    }

    private static void edge() {
        about("promise 12");
        due("edge() of none", picture(EMPTY).edge(), 0);
        due("edge() of all", picture(FULL).edge(), 32);
        due("edge() of the board", picture(BOARD).edge(), 128);
        due("edge() of the snake", picture(SNAKE).edge(), 74);
        CellPieces x = picture(SAMPLE);
        due("edge() of the sample", x.edge(), 50);
        duePicture("edge", x, SAMPLE);
        for (int cell = 0; cell < 64; cell++) {
            CellPieces one = new CellPieces();
            one.turn(cell);
            due("edge() of cell " + cell + " alone", one.edge(), 4);
        }
    }

    private static void grow() {
        about("promise 13");
        CellPieces x = picture("........", "........", "...#....", "........",
                "........", "........", "........", "#......#");
        due("grow(4)", x.grow(4), 8);
        duePicture("grow(4)", x, "........", "...#....", "..###...", "...#....",
                "........", "........", "#......#", "##....##");
        due("grow(8)", x.grow(8), 26);
        duePicture("grow(8)", x, "..###...", ".#####..", ".#####..", ".#####..",
                "..###...", "##....##", "###..###", "###..###");
        due("grow(4) of none", picture(EMPTY).grow(4), 0);
        due("grow(8) of all", picture(FULL).grow(8), 0);
        x = picture("........", "........", "........", "#......#",
                "........", "........", "........", "........");
        due("grow(8) at the sides", x.grow(8), 10);
        duePicture("grow(8)", x, "........", "........", "##....##", "##....##",
                "##....##", "........", "........", "........");
        x = picture(SAMPLE);
        for (int mode : WRONG_MODES) {
            due("grow(" + mode + ")", x.grow(mode), BAD_ARG);
        }
        duePicture("refused grow", x, SAMPLE);
    }

    private static void shrink() {
        about("promise 14");
        CellPieces x = picture(FULL);
        due("shrink(4) of all", x.shrink(4), 28);
        duePicture("shrink(4)", x, "........", ".######.", ".######.", ".######.",
                ".######.", ".######.", ".######.", "........");
        due("shrink(8)", x.shrink(8), 20);
        duePicture("shrink(8)", x, "........", "........", "..####..", "..####..",
                "..####..", "..####..", "........", "........");
        String[] dented = {"########", "########", "########", "###.####",
            "########", "########", "########", "########"};
        x = picture(dented);
        due("shrink(4) with a dent", x.shrink(4), 32);
        duePicture("shrink(4)", x, "........", ".######.", ".##.###.", ".#...##.",
                ".##.###.", ".######.", ".######.", "........");
        x = picture(dented);
        due("shrink(8) with a dent", x.shrink(8), 36);
        duePicture("shrink(8)", x, "........", ".######.", ".#...##.", ".#...##.",
                ".#...##.", ".######.", ".######.", "........");
        due("shrink(8) of none", picture(EMPTY).shrink(8), 0);
        due("shrink(8) of the sample", picture(SAMPLE).shrink(8), 21);
        x = picture(FULL);
        for (int mode : WRONG_MODES) {
            due("shrink(" + mode + ")", x.shrink(mode), BAD_ARG);
        }
        duePicture("refused shrink", x, FULL);
    }

    private static void fill() {
        about("promise 15");
        CellPieces x = picture(SAMPLE);
        due("fill(4)", x.fill(4), 0);
        duePicture("fill(4)", x, SAMPLE);
        due("fill(8)", x.fill(8), 6);
        duePicture("fill(8)", x, "........", ".#####..", ".#####..", ".#####..",
                ".####.##", "........", "###.....", "#.#....#");
        due("fill(8) again", x.fill(8), 0);
        String[] rings = {"........", ".######.", ".#....#.", ".#.##.#.",
            ".#.##.#.", ".#....#.", ".######.", "........"};
        String[] filled = {"........", ".######.", ".######.", ".######.",
            ".######.", ".######.", ".######.", "........"};
        x = picture(rings);
        due("fill(4) of rings", x.fill(4), 12);
        duePicture("fill(4)", x, filled);
        x = picture(rings);
        due("fill(8) of rings", x.fill(8), 12);
        due("fill(4) of none", picture(EMPTY).fill(4), 0);
        due("fill(8) of all", picture(FULL).fill(8), 0);
        due("fill(4) of the board", picture(BOARD).fill(4), 0);
        due("fill(8) of the board", picture(BOARD).fill(8), 18);
        x = picture(rings);
        for (int mode : WRONG_MODES) {
            due("fill(" + mode + ")", x.fill(mode), BAD_ARG);
        }
        duePicture("refused fill", x, rings);
    }

    private static void clear() {
        about("promise 16");
        CellPieces x = picture(SAMPLE);
        due("clear(4, 0)", x.clear(4, 0), 0);
        due("clear(4, 1)", x.clear(4, 1), 0);
        due("clear(8, 2)", x.clear(8, 2), 1);
        due("clear(8, 5)", x.clear(8, 5), 0);
        due("clear(4, 5)", x.clear(4, 5), 2);
        duePicture("clear", x, "........", ".#####..", ".#...#..", ".#...#..",
                ".####...", "........", "###.....", "#.#.....");
        due("clear(4, 13)", x.clear(4, 13), 5);
        due("clear(4, 14)", x.clear(4, 14), 13);
        duePicture("clear of the last piece", x, EMPTY);
        due("clear(8, 64) of none", x.clear(8, 64), 0);
        due("clear(4, 64) of all", picture(FULL).clear(4, 64), 0);
        CellPieces allButOne = picture(FULL);
        allButOne.turn(0);
        due("clear(4, 63) of all but one", allButOne.clear(4, 63), 0);
        due("clear(4, 64) of all but one", allButOne.clear(4, 64), 63);
        x = picture(SAMPLE);
        for (int n : new int[] {LOWEST, -1, 65, 66, 128, HIGHEST}) {
            due("clear(4, " + n + ")", x.clear(4, n), BAD_ARG);
            due("clear(8, " + n + ")", x.clear(8, n), BAD_ARG);
        }
        for (int mode : WRONG_MODES) {
            due("clear(" + mode + ", 64)", x.clear(mode, 64), BAD_ARG);
            due("clear(" + mode + ", 65)", x.clear(mode, 65), BAD_ARG);
        }
        duePicture("refused clear", x, SAMPLE);
    }

    private static void depth() {
        about("promise 17");
        CellPieces x = picture(FULL);
        for (int cell = 0; cell < 64; cell++) {
            int across = Math.min(cell % 8, 7 - cell % 8);
            int down = Math.min(cell / 8, 7 - cell / 8);
            due("depth(" + cell + ") of all", x.depth(cell), 1 + Math.min(across, down));
        }
        x.turn(27);
        due("depth(27), off", x.depth(27), 0);
        due("depth(28)", x.depth(28), 1);
        due("depth(36), which touches", x.depth(36), 2);
        due("depth(45)", x.depth(45), 3);
        due("depth(9)", x.depth(9), 2);
        due("depth(0) of none", picture(EMPTY).depth(0), 0);
        CellPieces full = picture(FULL);
        CellPieces none = picture(EMPTY);
        for (int cell : WRONG_CELLS) {
            due("depth(" + cell + ") of all", full.depth(cell), BAD_ARG);
            due("depth(" + cell + ") of none", none.depth(cell), BAD_ARG);
        }
        due("cells() after depth", full.cells(), 64);
        due("cells() after depth", none.cells(), 0);
    }

    private static void way() {
        about("promise 18");
        CellPieces x = picture(SAMPLE);
        due("way(4, 9, 9)", x.way(4, 9, 9), 0);
        due("way(4, 36, 29)", x.way(4, 36, 29), 12);
        due("way(4, 29, 36)", x.way(4, 29, 36), 12);
        due("way(8, 36, 29)", x.way(8, 36, 29), 1);
        due("way(4, 36, 39)", x.way(4, 36, 39), NONE);
        due("way(8, 33, 39)", x.way(8, 33, 39), 6);
        due("way(8, 9, 63)", x.way(8, 9, 63), NONE);
        due("way(4, 56, 58)", x.way(4, 56, 58), 4);
        due("way(8, 56, 58)", x.way(8, 56, 58), 2);
        due("way(4, 0, 9)", x.way(4, 0, 9), NONE);
        due("way(8, 9, 0)", x.way(8, 9, 0), NONE);
        due("way(8, 0, 0), off", x.way(8, 0, 0), NONE);
        due("way(4, 0, 56) of the snake", picture(SNAKE).way(4, 0, 56), 35);
        due("way(8, 0, 63) of all", picture(FULL).way(8, 0, 63), 7);
        due("way(4, 0, 63) of all", picture(FULL).way(4, 0, 63), 14);
        CellPieces full = picture(FULL);
        for (int cell : WRONG_CELLS) {
            due("way(4, " + cell + ", 9)", full.way(4, cell, 9), NONE);
            due("way(8, 9, " + cell + ")", full.way(8, 9, cell), NONE);
            due("way(4, " + cell + ", " + cell + ")", full.way(4, cell, cell), NONE);
            due("way(5, " + cell + ", 9)", full.way(5, cell, 9), BAD_ARG);
        }
        for (int mode : WRONG_MODES) {
            due("way(" + mode + ", 9, 9)", x.way(mode, 9, 9), BAD_ARG);
            due("way(" + mode + ", 0, 64)", x.way(mode, 0, 64), BAD_ARG);
        }
        duePicture("way", x, SAMPLE);
    }
}

/**
 * What the tests share: pictures, ways to make and to read one, and what is said of an answer that
 * is not the one due. The binary digits of a long tell a picture, digit c for cell c.
 */
abstract class Checks {
    static final int BAD_ARG = -1;
    static final int NONE = -4;
    static final int LOWEST = Integer.MIN_VALUE;
    static final int HIGHEST = Integer.MAX_VALUE;
    static final int[] MODES = {4, 8};
    // Each of the far ones would be a right mode again if only some of its binary digits were seen.
    static final int[] WRONG_MODES = {
        LOWEST, LOWEST + 4, LOWEST + 8, -65532, -252, -12, -9, -8, -7, -5, -4, -3, -1, 0, 1, 2, 3,
        5, 6, 7, 9, 10, 11, 12, 16, 32, 36, 40, 48, 64, 68, 72, 260, 264, 65540, 65544, HIGHEST};
    // Java takes only the last six digits of a shift, so that most of these would hit a cell.
    static final int[] WRONG_CELLS = {
        LOWEST, LOWEST + 1, LOWEST + 9, -1000000, -128, -65, -64, -63, -55, -8, -2, -1,
        64, 65, 71, 72, 73, 127, 128, 256, 1000000, 1 << 30, HIGHEST - 1, HIGHEST};

    static final String[] EMPTY = {
        "........", "........", "........", "........",
        "........", "........", "........", "........"};
    static final String[] FULL = {
        "########", "########", "########", "########",
        "########", "########", "########", "########"};
    // A ring whose corner (5, 4) is missing, a pair that touches it there, and more below.
    static final String[] SAMPLE = {
        "........",
        ".#####..",
        ".#...#..",
        ".#...#..",
        ".####.##",
        "........",
        "###.....",
        "#.#....#"};
    static final String[] BOARD = {
        "#.#.#.#.", ".#.#.#.#", "#.#.#.#.", ".#.#.#.#",
        "#.#.#.#.", ".#.#.#.#", "#.#.#.#.", ".#.#.#.#"};
    static final String[] SNAKE = {
        "########", ".......#", "########", "#.......",
        "########", ".......#", "########", "#......."};

    private static int wrong = 0;
    private static String subject = "";

    /** What the checks that follow are about: a promise, or a sentence of the document. */
    static void about(String words) {
        subject = words;
    }

    static void due(String call, int got, int want) {
        if (got != want) {
            wrong++;
            System.out.println(subject + ": " + call + " answered " + got + ", due is " + want);
        }
    }

    static void duePicture(String after, CellPieces x, String... want) {
        duePicture(after, x, digits(want));
    }

    static void duePicture(String after, CellPieces x, long want) {
        long got = read(x);
        if (got != want) {
            wrong++;
            System.out.println(subject + ": after " + after + " the picture is\n" + shown(got)
                    + "due is\n" + shown(want));
        }
    }

    static void fault(String words) {
        wrong++;
        System.out.println(subject + ": " + words);
    }

    static void end() {
        System.out.println(wrong == 0 ? "every answer is as due"
                : wrong + " answers are not as due");
        if (wrong != 0) {
            System.exit(1);
        }
    }

    static CellPieces picture(String... rows) {
        return picture(digits(rows));
    }

    /** Eight calls. */
    static CellPieces picture(long on) {
        CellPieces x = new CellPieces();
        for (int y = 0; y < 8; y++) {
            x.line(y, (int) (on >>> 8 * y & 255));
        }
        return x;
    }

    /** Sixteen calls, which leave the picture as it was. */
    static long read(CellPieces x) {
        long on = 0;
        for (int y = 0; y < 8; y++) {
            int set = x.line(y, 0);
            x.line(y, set & 255);
            on |= (long) set << 8 * y;
        }
        return on;
    }

    static long digits(String... rows) {
        long on = 0;
        for (int cell = 0; cell < 64; cell++) {
            if (rows[cell / 8].charAt(cell % 8) == '#') {
                on |= 1L << cell;
            }
        }
        return on;
    }

    static int distanceBySides(int a, int b) {
        return Math.abs(a % 8 - b % 8) + Math.abs(a / 8 - b / 8);
    }

    static int distanceByTouching(int a, int b) {
        return Math.max(Math.abs(a % 8 - b % 8), Math.abs(a / 8 - b / 8));
    }

    static boolean areNear(int mode, int a, int b) {
        return (mode == 4 ? distanceBySides(a, b) : distanceByTouching(a, b)) == 1;
    }

    static long nearOnes(int mode, int cell) {
        long set = 0;
        for (int other = 0; other < 64; other++) {
            set |= areNear(mode, cell, other) ? 1L << other : 0;
        }
        return set;
    }

    static boolean isAtRim(int cell) {
        return cell % 8 == 0 || cell % 8 == 7 || cell / 8 == 0 || cell / 8 == 7;
    }

    private static String shown(long on) {
        StringBuilder text = new StringBuilder();
        for (int cell = 0; cell < 64; cell++) {
            text.append((on >>> cell & 1) != 0 ? '#' : '.').append(cell % 8 == 7 ? "\n" : "");
        }
        return text.toString();
    }
}

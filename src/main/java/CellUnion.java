/**
 * Four sets of cells of a 16 by 16 plane.
 *
 * The cells of a set are held in the order of the curve: each square of the plane is then one run
 * of cells that begins at a multiple of its own length, and no square is ever walked by x and y.
 */
public final class CellUnion {
    public static final int BAD = -1;
    public static final int FULL = -2;
    public static final int NONE = -3;

    private static final int SETS = 4;
    private static final int SIDE = 16;
    private static final int CELLS = 256;
    private static final int LAST_LEVEL = 4;
    private static final int MOST_STRETCHES = 40;

    private static final int BOTH = 0;
    private static final int EITHER = 1;
    private static final int FIRST_ALONE = 2;

    // A fifth set, where a result is built first: one that is too much must leave its set as it was.
    private static final int DRAFT = 4;
    private static final int HELD_CELLS = 1280;

    private final boolean[] held = new boolean[HELD_CELLS];
    private final int[] placeOf = new int[CELLS];

    public CellUnion() {
        for (int x = 0; x < SIDE; x++) {
            for (int y = 0; y < SIDE; y++) {
                placeOf[curveNumber(x, y)] = SIDE * x + y;
            }
        }
    }

    public int change(int s, int square, boolean in) {
        if (!isSet(s) || !isSquare(square)) {
            return BAD;
        }
        copySet(s, DRAFT);
        fillDraft(square, in);
        return keepDraft(s);
    }

    public int combine(int d, int how, int a, int b) {
        if (!isSet(d) || !isSet(a) || !isSet(b) || how < BOTH || how > FIRST_ALONE) {
            return BAD;
        }
        for (int n = 0; n < CELLS; n++) {
            held[DRAFT * CELLS + n] = joined(how, held[a * CELLS + n], held[b * CELLS + n]);
        }
        return keepDraft(d);
    }

    public boolean has(int s, int x, int y) {
        return isSet(s) && isCell(x, y) && held[s * CELLS + curveNumber(x, y)];
    }

    public int cells(int s) {
        return isSet(s) ? countRun(s, 0, CELLS) : BAD;
    }

    public int stretches(int s) {
        return isSet(s) ? countStretches(s) : BAD;
    }

    public int pieces(int s) {
        if (!isSet(s)) {
            return BAD;
        }
        int count = 0;
        for (int n = 0; n < CELLS; n++) {
            if (levelOfPieceFrom(s, n) != NONE) {
                count++;
            }
        }
        return count;
    }

    public int piece(int s, int k) {
        if (!isSet(s)) {
            return BAD;
        }
        int before = 0;
        for (int n = 0; n < CELLS; n++) {
            int level = levelOfPieceFrom(s, n);
            if (level != NONE) {
                if (before == k) {
                    return CELLS * level + n;
                }
                before++;
            }
        }
        return NONE;
    }

    public int number(int x, int y) {
        return isCell(x, y) ? curveNumber(x, y) : BAD;
    }

    public int place(int n) {
        return n >= 0 && n < CELLS ? placeOf[n] : BAD;
    }

    public int nth(int s, int k) {
        if (!isSet(s)) {
            return BAD;
        }
        int before = 0;
        for (int n = 0; n < CELLS; n++) {
            if (held[s * CELLS + n]) {
                if (before == k) {
                    return placeOf[n];
                }
                before++;
            }
        }
        return NONE;
    }

    public int touched(int s, int level) {
        if (!isSet(s) || level < 0 || level > LAST_LEVEL) {
            return BAD;
        }
        int length = squareLength(level);
        int squares = 1 << (2 * level);
        int count = 0;
        for (int i = 0; i < squares; i++) {
            if (countRun(s, i * length, length) > 0) {
                count++;
            }
        }
        return count;
    }

    private static boolean isSet(int s) {
        return s >= 0 && s < SETS;
    }

    private static boolean isCell(int x, int y) {
        return x >= 0 && x < SIDE && y >= 0 && y < SIDE;
    }

    private static boolean isSquare(int square) {
        if (square < 0 || levelOf(square) > LAST_LEVEL) {
            return false;
        }
        int rows = 1 << levelOf(square);
        return columnOf(square) < rows && rowOf(square) < rows;
    }

    private static int levelOf(int square) {
        return square / 1024;
    }

    private static int columnOf(int square) {
        return square / 32 % 32;
    }

    private static int rowOf(int square) {
        return square % 32;
    }

    private static int squareLength(int level) {
        return CELLS >> (2 * level);
    }

    private static int curveNumber(int x, int y) {
        int number = 0;
        for (int w = SIDE / 2; w >= 1; w /= 2) {
            int q = quarter((x & w) != 0, (y & w) != 0);
            number = 4 * number + q;
            int oldX = x;
            if (q == 0) {
                x = y;
                y = oldX;
            } else if (q == 3) {
                x = SIDE - 1 - y;
                y = SIDE - 1 - oldX;
            }
        }
        return number;
    }

    private static int quarter(boolean a, boolean b) {
        if (a) {
            return b ? 2 : 3;
        }
        return b ? 1 : 0;
    }

    /** The smallest curve number of a square's cells, found from the cell of its lowest x and y. */
    private static int firstNumber(int square) {
        int side = SIDE >> levelOf(square);
        int x = columnOf(square) * side;
        int y = rowOf(square) * side;
        // The curve may enter the square at another corner, so go back to where its run begins.
        return curveNumber(x, y) & -(side * side);
    }

    private static boolean joined(int how, boolean inA, boolean inB) {
        if (how == BOTH) {
            return inA && inB;
        }
        if (how == EITHER) {
            return inA || inB;
        }
        return inA && !inB;
    }

    private void copySet(int from, int to) {
        for (int n = 0; n < CELLS; n++) {
            held[to * CELLS + n] = held[from * CELLS + n];
        }
    }

    private void fillDraft(int square, boolean in) {
        int first = firstNumber(square);
        int level = levelOf(square);
        int length = squareLength(level);
        for (int i = 0; i < length; i++) {
            held[DRAFT * CELLS + first + i] = in;
        }
    }

    private int keepDraft(int s) {
        if (countStretches(DRAFT) > MOST_STRETCHES) {
            return FULL;
        }
        copySet(DRAFT, s);
        return countRun(s, 0, CELLS);
    }

    private int countRun(int s, int first, int length) {
        int count = 0;
        for (int i = 0; i < length; i++) {
            if (held[s * CELLS + first + i]) {
                count++;
            }
        }
        return count;
    }

    private int countStretches(int s) {
        int count = 0;
        boolean before = false;
        for (int n = 0; n < CELLS; n++) {
            boolean now = held[s * CELLS + n];
            if (now && !before) {
                count++;
            }
            before = now;
        }
        return count;
    }

    /** The level of the piece whose smallest curve number is n, or NONE if no piece begins there. */
    private int levelOfPieceFrom(int s, int n) {
        for (int level = 0; level <= LAST_LEVEL; level++) {
            int length = squareLength(level);
            int first = n & -length;
            if (countRun(s, first, length) == length) {
                return first == n ? level : NONE;
            }
        }
        return NONE;
    }
}

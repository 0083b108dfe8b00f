import java.util.TreeMap;

/** The document's words in their slowest form: sets by x and y, squares walked cell by cell. */
final class Model {
    private static final int BAD = -1;
    private static final int FULL = -2;
    private static final int NONE = -3;

    private boolean[][][] sets = new boolean[4][16][16];

    int change(int s, int square, boolean in) {
        int level = Math.floorDiv(square, 1024);
        if (outside(s, 3) || outside(level, 4)) {
            return BAD;
        }
        int u = square % 1024 / 32;
        int v = square % 32;
        if (u >= 1 << level || v >= 1 << level) {
            return BAD;
        }
        boolean[][] result = new boolean[16][16];
        for (int x = 0; x < 16; x++) {
            for (int y = 0; y < 16; y++) {
                result[x][y] = inSquare(level, u, v, x, y) ? in : sets[s][x][y];
            }
        }
        return keep(s, result);
    }

    int combine(int d, int how, int a, int b) {
        if (outside(d, 3) || outside(a, 3) || outside(b, 3) || outside(how, 2)) {
            return BAD;
        }
        boolean[][] result = new boolean[16][16];
        for (int x = 0; x < 16; x++) {
            for (int y = 0; y < 16; y++) {
                boolean inA = sets[a][x][y];
                boolean inB = sets[b][x][y];
                result[x][y] = how == 0 ? inA & inB : how == 1 ? inA | inB : inA & !inB;
            }
        }
        return keep(d, result);
    }

    boolean has(int s, int x, int y) {
        return !outside(s, 3) && !outside(x, 15) && !outside(y, 15) && sets[s][x][y];
    }

    int cells(int s) {
        return outside(s, 3) ? BAD : countCells(sets[s]);
    }

    int stretches(int s) {
        return outside(s, 3) ? BAD : countStretches(sets[s]);
    }

    int pieces(int s) {
        return outside(s, 3) ? BAD : piecesByFirst(s).size();
    }

    int piece(int s, int k) {
        if (outside(s, 3)) {
            return BAD;
        }
        int index = 0;
        for (var piece : piecesByFirst(s).entrySet()) {
            if (index == k) {
                return 256 * piece.getValue() + piece.getKey();
            }
            index++;
        }
        return NONE;
    }

    int number(int x, int y) {
        return outside(x, 15) || outside(y, 15) ? BAD : numberWithin(16, x, y);
    }

    int place(int n) {
        for (int i = 0; i < 256; i++) {
            if (numberWithin(16, i / 16, i % 16) == n) {
                return i;
            }
        }
        return BAD;
    }

    int nth(int s, int k) {
        if (outside(s, 3)) {
            return BAD;
        }
        int index = 0;
        for (int place : curve()) {
            if (sets[s][place / 16][place % 16] && index++ == k) {
                return place;
            }
        }
        return NONE;
    }

    int touched(int s, int level) {
        if (outside(s, 3) || outside(level, 4)) {
            return BAD;
        }
        int count = 0;
        for (int i = 0; i < 1 << (2 * level); i++) {
            if (countInSquare(sets[s], level, i >> level, i % (1 << level)) > 0) {
                count++;
            }
        }
        return count;
    }

    private static boolean outside(int n, int last) {
        return n < 0 || n > last;
    }

    private static boolean inSquare(int level, int u, int v, int x, int y) {
        int side = 1 << (4 - level);
        return u * side <= x && x < (u + 1) * side && v * side <= y && y < (v + 1) * side;
    }

    private static int countInSquare(boolean[][] set, int level, int u, int v) {
        int count = 0;
        for (int x = 0; x < 16; x++) {
            for (int y = 0; y < 16; y++) {
                if (set[x][y] && inSquare(level, u, v, x, y)) {
                    count++;
                }
            }
        }
        return count;
    }

    private static int countCells(boolean[][] set) {
        return countInSquare(set, 0, 0, 0);
    }

    /** The curve drawn by quarters: the first is turned over one diagonal, the last over the other. */
    private static int numberWithin(int side, int x, int y) {
        if (side == 1) {
            return 0;
        }
        int half = side / 2;
        int quarter = half * half;
        if (x < half && y < half) {
            return numberWithin(half, y, x);
        }
        if (x < half) {
            return quarter + numberWithin(half, x, y - half);
        }
        if (y >= half) {
            return 2 * quarter + numberWithin(half, x - half, y - half);
        }
        return 3 * quarter + numberWithin(half, half - 1 - y, side - 1 - x);
    }

    private static int[] curve() {
        int[] places = new int[256];
        for (int i = 0; i < 256; i++) {
            places[numberWithin(16, i / 16, i % 16)] = i;
        }
        return places;
    }

    private static int countStretches(boolean[][] set) {
        int ends = 0;
        boolean last = false;
        for (int place : curve()) {
            boolean now = set[place / 16][place % 16];
            ends += last != now ? 1 : 0;
            last = now;
        }
        return (ends + (last ? 1 : 0)) / 2;
    }

    private int keep(int s, boolean[][] result) {
        if (countStretches(result) > 40) {
            return FULL;
        }
        sets[s] = result;
        return countCells(result);
    }

    private TreeMap<Integer, Integer> piecesByFirst(int s) {
        TreeMap<Integer, Integer> levels = new TreeMap<>();
        for (int x = 0; x < 16; x++) {
            for (int y = 0; y < 16; y++) {
                if (sets[s][x][y]) {
                    int level = largestLevel(s, x, y);
                    levels.put(firstNumber(level, x, y), level);
                }
            }
        }
        return levels;
    }

    private int largestLevel(int s, int x, int y) {
        int level = 0;
        while (countInSquare(sets[s], level, x >> (4 - level), y >> (4 - level)) != 256 >> (2 * level)) {
            level++;
        }
        return level;
    }

    private static int firstNumber(int level, int x, int y) {
        int first = 256;
        for (int i = 0; i < 256; i++) {
            if (inSquare(level, x >> (4 - level), y >> (4 - level), i / 16, i % 16)) {
                first = Math.min(first, numberWithin(16, i / 16, i % 16));
            }
        }
        return first;
    }
}

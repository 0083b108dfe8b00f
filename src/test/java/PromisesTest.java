/** Each promise of the document by hand: ordinary inputs, the edges it names, wrong inputs. */
public final class PromisesTest {
    private static final int BAD = -1;
    private static final int FULL = -2;
    private static final int NONE = -3;
    private static final int[] OUTSIDE_SETS = {-1, 4, 5, 256, -4, Integer.MIN_VALUE, Integer.MAX_VALUE};

    public static void main(String[] args) {
        constants();
        promise1NewObject();
        promise2Change();
        promise2EverySquare();
        promise2WrongSquares();
        promise2Full();
        promise3Combine();
        promise3SameSets();
        promise3Wrong();
        promise3Full();
        promise4Has();
        promise5Cells();
        promise6Stretches();
        promise7And8Pieces();
        promise9Number();
        promise10Place();
        promise11Nth();
        promise12Touched();
        promise13Order();
        objectsAreApart();
        Due.end();
    }

    private static int square(int level, int u, int v) {
        return 1024 * level + 32 * u + v;
    }

    /** The square of level 4 that is the cell with curve number n. */
    private static int cell(CellUnion c, int n) {
        int place = c.place(n);
        return square(4, place / 16, place % 16);
    }

    /** Every second cell of the curve from n on, each a stretch of its own. */
    private static void addApart(CellUnion c, int s, int n, int count) {
        for (int i = 0; i < count; i++) {
            c.change(s, cell(c, n + 2 * i), true);
        }
    }

    private static void constants() {
        Due.is("BAD", CellUnion.BAD, BAD);
        Due.is("FULL", CellUnion.FULL, FULL);
        Due.is("NONE", CellUnion.NONE, NONE);
    }

    private static void promise1NewObject() {
        CellUnion c = new CellUnion();
        for (int s = 0; s < 4; s++) {
            Due.is("new cells " + s, c.cells(s), 0);
            Due.is("new stretches " + s, c.stretches(s), 0);
            Due.is("new pieces " + s, c.pieces(s), 0);
            Due.is("new piece " + s, c.piece(s, 0), NONE);
            Due.is("new nth " + s, c.nth(s, 0), NONE);
            for (int level = 0; level <= 4; level++) {
                Due.is("new touched " + s + " " + level, c.touched(s, level), 0);
            }
            for (int n = 0; n < 64; n++) {
                Due.is("new has " + s + " " + n, c.has(s, n % 16, n / 16 * 5), false);
            }
        }
    }

    private static void promise2Change() {
        CellUnion c = new CellUnion();
        Due.is("add a quarter", c.change(2, square(1, 1, 0), true), 64);
        Due.is("add it again", c.change(2, square(1, 1, 0), true), 64);
        Due.is("add a square inside", c.change(2, square(3, 4, 0), true), 64);
        Due.is("take a square out", c.change(2, square(3, 4, 0), false), 60);
        Due.is("take it out again", c.change(2, square(3, 4, 0), false), 60);
        Due.is("take out a square that is half in", c.change(2, square(0, 0, 0), false), 0);
        Due.is("take out of nothing", c.change(2, square(4, 15, 15), false), 0);
        for (int s = 0; s < 4; s++) {
            Due.is("one cell into " + s, c.change(s, square(4, s, 15), true), 1);
        }
        for (int s = 0; s < 4; s++) {
            for (int x = 0; x < 4; x++) {
                Due.is("only its own cell in " + s, c.has(s, x, 15), x == s);
            }
        }
    }

    private static void promise2EverySquare() {
        for (int level = 0; level <= 4; level++) {
            int columns = 1 << level;
            for (int i = 0; i < columns * columns; i++) {
                oneSquare(level, i / columns, i % columns);
            }
        }
    }

    private static void oneSquare(int level, int u, int v) {
        CellUnion c = new CellUnion();
        int side = 16 >> level;
        String name = "square " + level + " " + u + " " + v;
        Due.is(name, c.change(1, square(level, u, v), true), side * side);
        for (int x = 0; x < 16; x++) {
            for (int y = 0; y < 16; y++) {
                boolean inside = x / side == u && y / side == v;
                Due.is(name + " has " + x + " " + y, c.has(1, x, y), inside);
            }
        }
        Due.is(name + " out", c.change(1, square(level, u, v), false), 0);
    }

    private static void promise2WrongSquares() {
        CellUnion c = new CellUnion();
        int[] wrong = {-1, -1024, -4096, Integer.MIN_VALUE, Integer.MIN_VALUE + 1024, Integer.MAX_VALUE,
            1, 31, 32, 512, 992, 1023,
            square(1, 0, 2), square(1, 2, 0), square(1, 0, 31), square(1, 31, 1), 2047,
            square(2, 4, 0), square(2, 0, 4), square(2, 3, 4), square(2, 4, 3),
            square(3, 8, 7), square(3, 7, 8), square(4, 16, 0), square(4, 0, 16), square(4, 15, 16),
            square(4, 16, 15), 5119, 5120, 5121, 6144, 1024 * 31, 1024 * 32, 1 << 30};
        for (int square : wrong) {
            Due.is("change(0, " + square + ", true)", c.change(0, square, true), BAD);
            Due.is("change(0, " + square + ", false)", c.change(0, square, false), BAD);
        }
        for (int s : OUTSIDE_SETS) {
            Due.is("change(" + s + ", 0, true)", c.change(s, 0, true), BAD);
            Due.is("change(" + s + ", 0, false)", c.change(s, 0, false), BAD);
        }
        for (int s = 0; s < 4; s++) {
            Due.is("nothing came of it", c.cells(s), 0);
        }
        for (int level = 0; level <= 4; level++) {
            int last = (1 << level) - 1;
            int cells = c.change(1, square(level, last, last), true);
            Due.is("the last square of level " + level, cells, 256);
        }
    }

    private static void promise2Full() {
        CellUnion c = new CellUnion();
        addApart(c, 0, 0, 39);
        Due.is("39 stretches", c.stretches(0), 39);
        Due.is("the 40th", c.change(0, cell(c, 78), true), 40);
        Due.is("the 41st", c.change(0, cell(c, 80), true), FULL);
        Due.is("the 41st far off", c.change(0, square(3, 7, 0), true), FULL);
        Due.is("cells as before", c.cells(0), 40);
        Due.is("stretches as before", c.stretches(0), 40);
        Due.is("not in", c.nth(0, 40), NONE);
        Due.is("a stretch made longer", c.change(0, cell(c, 79), true), 41);
        Due.is("two stretches made one", c.change(0, cell(c, 1), true), 42);
        Due.is("room for one again", c.change(0, cell(c, 255), true), 43);
        Due.is("a stretch cut in two", c.change(0, cell(c, 1), false), FULL);
        Due.is("the cut did not happen", c.nth(0, 1), c.place(1));
        Due.is("cells after the cut", c.cells(0), 43);
        Due.is("a stretch made shorter", c.change(0, cell(c, 2), false), 42);
        Due.is("still 40", c.stretches(0), 40);
        Due.is("another set has its own room", c.change(1, cell(c, 80), true), 1);
        Due.is("all in", c.change(0, 0, true), 256);
        for (int i = 1; i < 40; i++) {
            Due.is("cut " + i, c.change(0, cell(c, 6 * i), false), 256 - i);
        }
        Due.is("a cut too much", c.change(0, cell(c, 3), false), FULL);
        Due.is("a cut at the end", c.change(0, cell(c, 0), false), 216);
        Due.is("after cuts", c.stretches(0), 40);
    }

    private static CellUnion twoOverlapping() {
        CellUnion c = new CellUnion();
        c.change(0, square(1, 0, 0), true);
        c.change(0, square(1, 0, 1), true);
        c.change(1, square(1, 0, 1), true);
        c.change(1, square(2, 2, 2), true);
        return c;
    }

    private static void promise3Combine() {
        CellUnion c = twoOverlapping();
        c.change(2, 0, true);
        Due.is("both", c.combine(2, 0, 0, 1), 64);
        Due.is("both lower left", c.has(2, 0, 0), false);
        Due.is("both upper left", c.has(2, 0, 15), true);
        Due.is("both middle", c.has(2, 8, 8), false);
        Due.is("either", c.combine(2, 1, 0, 1), 144);
        Due.is("either lower left", c.has(2, 0, 0), true);
        Due.is("either middle", c.has(2, 8, 8), true);
        Due.is("either lower right", c.has(2, 15, 0), false);
        Due.is("first alone", c.combine(2, 2, 0, 1), 64);
        Due.is("first alone lower left", c.has(2, 0, 0), true);
        Due.is("first alone upper left", c.has(2, 0, 15), false);
        Due.is("other way round", c.combine(2, 2, 1, 0), 16);
        Due.is("other way round middle", c.has(2, 8, 8), true);
        Due.is("a is as it was", c.cells(0), 128);
        Due.is("b is as it was", c.cells(1), 80);
        Due.is("the fourth set is as it was", c.cells(3), 0);
    }

    private static void promise3SameSets() {
        int[] intoA = {64, 144, 64};
        int[] intoB = {64, 144, 64};
        int[] aWithA = {128, 128, 0};
        for (int how = 0; how < 3; how++) {
            CellUnion c = twoOverlapping();
            Due.is("into a, how " + how, c.combine(0, how, 0, 1), intoA[how]);
            Due.is("b stays, how " + how, c.cells(1), 80);
            c = twoOverlapping();
            Due.is("into b, how " + how, c.combine(1, how, 0, 1), intoB[how]);
            Due.is("a stays, how " + how, c.cells(0), 128);
            c = twoOverlapping();
            Due.is("a with a, how " + how, c.combine(3, how, 0, 0), aWithA[how]);
            Due.is("a with a into a, how " + how, c.combine(0, how, 0, 0), aWithA[how]);
            Due.is("a with empty, how " + how, c.combine(1, how, 1, 2), how == 0 ? 0 : 80);
        }
    }

    private static void promise3Wrong() {
        CellUnion c = twoOverlapping();
        for (int s : OUTSIDE_SETS) {
            Due.is("d " + s, c.combine(s, 1, 0, 1), BAD);
            Due.is("a " + s, c.combine(2, 1, s, 1), BAD);
            Due.is("b " + s, c.combine(2, 1, 0, s), BAD);
        }
        int[] hows = {-1, 3, 4, -3, Integer.MIN_VALUE, Integer.MAX_VALUE};
        for (int how : hows) {
            Due.is("how " + how, c.combine(2, how, 0, 1), BAD);
        }
        Due.is("nothing came of it", c.cells(2), 0);
    }

    private static void promise3Full() {
        CellUnion c = new CellUnion();
        addApart(c, 0, 0, 20);
        addApart(c, 1, 60, 20);
        Due.is("20 and 20 stretches", c.combine(2, 1, 0, 1), 40);
        Due.is("40 stretches", c.stretches(2), 40);
        c.change(1, cell(c, 255), true);
        Due.is("20 and 21 stretches", c.combine(2, 1, 0, 1), FULL);
        Due.is("d is as before", c.cells(2), 40);
        Due.is("the last of d", c.nth(2, 39), c.place(98));
        Due.is("into a", c.combine(0, 1, 0, 1), FULL);
        Due.is("a is as before", c.cells(0), 20);
        Due.is("into b", c.combine(1, 1, 0, 1), FULL);
        Due.is("b is as before", c.cells(1), 21);

        c.change(3, 0, true);
        Due.is("all but 40 from 0", c.combine(0, 2, 3, 2), 216);
        Due.is("their stretches", c.stretches(0), 40);
        c.change(2, cell(c, 0), false);
        c.change(2, cell(c, 200), true);
        Due.is("all but 40 from 2", c.combine(0, 2, 3, 2), FULL);
        Due.is("0 is as before", c.cells(0), 216);

        c.combine(0, 2, 3, 3);
        addApart(c, 0, 0, 40);
        c.change(1, 0, true);
        c.change(1, cell(c, 100), false);
        Due.is("both, 40 stretches", c.combine(2, 0, 0, 1), 40);
        for (int i = 0; i < 39; i++) {
            c.change(0, cell(c, 2 * i + 1), true);
            c.change(0, cell(c, 82 + 2 * i), true);
        }
        Due.is("long stretches", c.stretches(0), 40);
        c.change(1, 0, true);
        Due.is("both, 40 stretches again", c.combine(3, 0, 0, 1), 118);
        c.change(1, cell(c, 10), false);
        Due.is("both, 41 stretches", c.combine(2, 0, 0, 1), FULL);
        Due.is("2 is as before", c.cells(2), 40);
    }

    private static void promise4Has() {
        CellUnion c = new CellUnion();
        c.change(0, 0, true);
        int[] outside = {-1, 16, 17, 256, Integer.MIN_VALUE, Integer.MAX_VALUE};
        for (int n : outside) {
            Due.is("has(0, " + n + ", 3)", c.has(0, n, 3), false);
            Due.is("has(0, 3, " + n + ")", c.has(0, 3, n), false);
            Due.is("has(0, n, n) of " + n, c.has(0, n, n), false);
        }
        for (int s = 1; s < 4; s++) {
            c.change(s, 0, true);
        }
        for (int s : OUTSIDE_SETS) {
            Due.is("has(" + s + ", 0, 0)", c.has(s, 0, 0), false);
        }
        Due.is("has(0, 15, 15)", c.has(0, 15, 15), true);
        Due.is("has(3, 0, 0)", c.has(3, 0, 0), true);
        c.change(3, square(4, 2, 9), false);
        Due.is("has(3, 2, 9)", c.has(3, 2, 9), false);
        Due.is("has(3, 9, 2)", c.has(3, 9, 2), true);
        Due.is("has(2, 2, 9)", c.has(2, 2, 9), true);
    }

    private static void promise5Cells() {
        CellUnion c = new CellUnion();
        c.change(3, square(2, 1, 3), true);
        c.change(3, square(4, 15, 0), true);
        Due.is("cells(3)", c.cells(3), 17);
        Due.is("cells(2)", c.cells(2), 0);
        for (int s : OUTSIDE_SETS) {
            Due.is("cells(" + s + ")", c.cells(s), BAD);
        }
    }

    private static void promise6Stretches() {
        CellUnion c = new CellUnion();
        c.change(1, cell(c, 0), true);
        c.change(1, cell(c, 255), true);
        Due.is("first and last", c.stretches(1), 2);
        c.change(1, cell(c, 1), true);
        Due.is("first two and last", c.stretches(1), 2);
        c.change(1, cell(c, 3), true);
        Due.is("three stretches", c.stretches(1), 3);
        c.change(1, cell(c, 2), true);
        Due.is("two of them joined", c.stretches(1), 2);
        c.change(1, 0, true);
        Due.is("all", c.stretches(1), 1);
        c.change(1, cell(c, 77), false);
        Due.is("all but one", c.stretches(1), 2);
        Due.is("of another set", c.stretches(0), 0);
        for (int s : OUTSIDE_SETS) {
            Due.is("stretches(" + s + ")", c.stretches(s), BAD);
        }
        // Neighbours in the plane that are far from each other on the curve are two stretches.
        c.change(2, square(4, 7, 0), true);
        c.change(2, square(4, 8, 0), true);
        Due.is("neighbours in the plane", c.stretches(2), 2);
    }

    private static void promise7And8Pieces() {
        CellUnion c = new CellUnion();
        // Four cells that follow each other are no square unless they begin at a multiple of four.
        for (int n = 2; n < 6; n++) {
            c.change(0, cell(c, n), true);
        }
        Due.is("cells 2 to 5", c.pieces(0), 4);
        for (int k = 0; k < 4; k++) {
            Due.is("piece " + k, c.piece(0, k), 1024 + 2 + k);
        }
        c.change(0, cell(c, 6), true);
        c.change(0, cell(c, 7), true);
        Due.is("cells 2 to 7", c.pieces(0), 3);
        Due.is("the square of level 3", c.piece(0, 2), 768 + 4);
        Due.is("one past the last", c.piece(0, 3), NONE);
        int[] noPiece = {-1, 4, 256, Integer.MIN_VALUE, Integer.MAX_VALUE};
        for (int k : noPiece) {
            Due.is("piece(0, " + k + ")", c.piece(0, k), NONE);
        }
        for (int level = 0; level <= 4; level++) {
            int last = (1 << level) - 1;
            c.combine(1, 2, 1, 1);
            c.change(1, square(level, last, 0), true);
            Due.is("one square of level " + level, c.pieces(1), 1);
            int first = 256 - (256 >> (2 * level));
            Due.is("the last square of level " + level, c.piece(1, 0), 256 * level + first);
        }
        c.change(1, 0, true);
        Due.is("no piece of the set behind it", c.piece(0, 3), NONE);
        c.change(2, square(1, 0, 0), true);
        c.change(2, square(1, 1, 1), true);
        c.change(2, square(2, 1, 2), true);
        Due.is("of levels 1, 2, 1", c.pieces(2), 3);
        Due.is("the lower left", c.piece(2, 0), 256);
        Due.is("the middle", c.piece(2, 1), 512 + 112);
        Due.is("the upper right", c.piece(2, 2), 256 + 128);
        Due.is("no pieces", c.pieces(3), 0);
        for (int s : OUTSIDE_SETS) {
            Due.is("pieces(" + s + ")", c.pieces(s), BAD);
            Due.is("piece(" + s + ", 0)", c.piece(s, 0), BAD);
        }
    }

    private static void promise9Number() {
        CellUnion c = new CellUnion();
        // The first sixteen cells of the curve, walked by hand, by 16 * x + y.
        int[] walk = {0, 16, 17, 1, 2, 3, 19, 18, 34, 35, 51, 50, 49, 33, 32, 48};
        for (int n = 0; n < walk.length; n++) {
            int x = walk[n] / 16;
            int y = walk[n] % 16;
            Due.is("number(" + x + ", " + y + ")", c.number(x, y), n);
            Due.is("place(" + n + ")", c.place(n), walk[n]);
        }
        Due.is("number(15, 0)", c.number(15, 0), 255);
        Due.is("number(0, 15)", c.number(0, 15), 85);
        Due.is("number(15, 15)", c.number(15, 15), 170);
        int[] outside = {-1, 16, 31, -16, Integer.MIN_VALUE, Integer.MAX_VALUE};
        for (int n : outside) {
            Due.is("number(" + n + ", 0)", c.number(n, 0), BAD);
            Due.is("number(0, " + n + ")", c.number(0, n), BAD);
            Due.is("number(n, n) of " + n, c.number(n, n), BAD);
        }
    }

    private static void promise10Place() {
        CellUnion forPlace = new CellUnion();
        CellUnion forNumber = new CellUnion();
        int[] outside = {-1, 256, 257, -256, Integer.MIN_VALUE, Integer.MAX_VALUE};
        for (int n : outside) {
            Due.is("place(" + n + ")", forPlace.place(n), BAD);
        }
        int last = 0;
        for (int n = 0; n < 256; n++) {
            int place = forPlace.place(n);
            Due.is("number of place " + n, forNumber.number(place / 16, place % 16), n);
            int apart = Math.abs(place / 16 - last / 16) + Math.abs(place % 16 - last % 16);
            Due.is("steps to place " + n, apart, n == 0 ? 0 : 1);
            last = place;
        }
        Due.is("the last place", last, 240);
    }

    private static void promise11Nth() {
        CellUnion c = new CellUnion();
        c.change(0, cell(c, 255), true);
        c.change(0, cell(c, 0), true);
        c.change(0, cell(c, 130), true);
        Due.is("nth(0, 0)", c.nth(0, 0), 0);
        Due.is("nth(0, 1)", c.nth(0, 1), c.place(130));
        Due.is("nth(0, 2)", c.nth(0, 2), 240);
        int[] none = {3, 4, 255, 256, -1, Integer.MIN_VALUE, Integer.MAX_VALUE};
        for (int k : none) {
            Due.is("nth(0, " + k + ")", c.nth(0, k), NONE);
        }
        c.change(1, 0, true);
        Due.is("nth(1, 255)", c.nth(1, 255), 240);
        Due.is("nth(1, 256)", c.nth(1, 256), NONE);
        Due.is("no cell of the set behind it", c.nth(0, 3), NONE);
        for (int s : OUTSIDE_SETS) {
            Due.is("nth(" + s + ", 0)", c.nth(s, 0), BAD);
        }
    }

    private static void promise12Touched() {
        CellUnion c = new CellUnion();
        c.change(0, square(4, 0, 0), true);
        c.change(0, square(4, 1, 1), true);
        c.change(0, square(4, 2, 0), true);
        c.change(0, square(4, 15, 15), true);
        int[] due = {1, 2, 2, 3, 4};
        int[] all = {1, 4, 16, 64, 256};
        c.change(1, 0, true);
        for (int level = 0; level <= 4; level++) {
            Due.is("touched(0, " + level + ")", c.touched(0, level), due[level]);
            Due.is("touched(1, " + level + ")", c.touched(1, level), all[level]);
            Due.is("touched(2, " + level + ")", c.touched(2, level), 0);
            for (int s : OUTSIDE_SETS) {
                Due.is("touched(" + s + ", " + level + ")", c.touched(s, level), BAD);
            }
        }
        int[] outside = {-1, 5, 6, 16, 32, Integer.MIN_VALUE, Integer.MAX_VALUE};
        for (int level : outside) {
            Due.is("touched(0, " + level + ")", c.touched(0, level), BAD);
            Due.is("touched(4, " + level + ")", c.touched(4, level), BAD);
        }
    }

    private static void promise13Order() {
        CellUnion c = new CellUnion();
        int[] ks = {-1, 0, 40, 256, Integer.MIN_VALUE, Integer.MAX_VALUE};
        for (int k : ks) {
            for (int s : OUTSIDE_SETS) {
                Due.is("piece(" + s + ", " + k + ")", c.piece(s, k), BAD);
                Due.is("nth(" + s + ", " + k + ")", c.nth(s, k), BAD);
            }
        }
        addApart(c, 0, 0, 40);
        addApart(c, 1, 100, 40);
        Due.is("full by change", c.change(0, cell(c, 100), true), FULL);
        Due.is("full by combine", c.combine(2, 1, 0, 1), FULL);
        Due.is("wrong set for a full change", c.change(4, cell(c, 100), true), BAD);
        Due.is("wrong square in a full set", c.change(0, square(4, 16, 0), true), BAD);
        Due.is("wrong square in a full set, out", c.change(0, -1, false), BAD);
        Due.is("wrong d for a full result", c.combine(4, 1, 0, 1), BAD);
        Due.is("wrong how for full sets", c.combine(2, 3, 0, 1), BAD);
        Due.is("wrong how below", c.combine(2, -1, 0, 1), BAD);
        Due.is("wrong b for a full set", c.combine(2, 1, 0, 4), BAD);
        Due.is("0 is as before", c.cells(0), 40);
        Due.is("2 is as before", c.cells(2), 0);
    }

    private static void objectsAreApart() {
        CellUnion one = new CellUnion();
        CellUnion other = new CellUnion();
        one.change(0, 0, true);
        other.change(1, square(1, 0, 0), true);
        Due.is("one's 0", one.cells(0), 256);
        Due.is("one's 1", one.cells(1), 0);
        Due.is("other's 0", other.cells(0), 0);
        Due.is("other's 1", other.cells(1), 64);
        Due.is("a third's 0", new CellUnion().cells(0), 0);
    }
}

import java.util.List;
import java.util.function.Supplier;

/** The edges that promises 4 to 13 name, a test for each sentence or part of one. */
public final class EdgesOfAnswersTest {
    private static final int[] ANY_K = {0, 1, -1, -2, 39, 40, 191, 192, 255, 256, 257, 1 << 16, 1 << 30,
        Integer.MIN_VALUE, Integer.MAX_VALUE};

    public static void main(String[] args) {
        has();
        hasOutOfRange();
        cells();
        cellsOutside();
        stretches();
        stretchesOutside();
        pieces();
        piecesOutside();
        pieceInOrder();
        pieceAsNumber();
        noPiece();
        pieceOutside();
        number();
        numberOutside();
        place();
        placeOutside();
        nth();
        noNth();
        nthOutside();
        touched();
        touchedEmptyAndAll();
        touchedOutside();
        setBeforeK();
        changeBadBeforeFull();
        combineBadBeforeFull();
        askingChangesNothing();
        Due.end();
    }

    /** All four sets have all cells: a number out of range finds a cell wherever it is looked for. */
    private static CellUnion allFull() {
        CellUnion c = new CellUnion();
        for (int s = 0; s < 4; s++) {
            c.change(s, 0, true);
        }
        return c;
    }

    /** Every block of four cells lacks one: no set has more pieces than this one, in 33 stretches. */
    private static CellUnion mostPieces(int s) {
        CellUnion c = new CellUnion();
        c.change(s, 0, true);
        for (int n = 0; n < 256; n += 8) {
            Plane.takeOut(c, s, n + 3);
            Plane.takeOut(c, s, n + 4);
        }
        return c;
    }

    private static void has() {
        Due.sentence("Promise 4: whether cell (x, y) is in set s");
        for (int s = 0; s < 4; s++) {
            CellUnion c = new CellUnion();
            c.change(s, Plane.square(4, 0, 15), true);
            for (int i = 0; i < 256; i++) {
                Due.is("has(" + s + ") of " + i, c.has(s, i / 16, i % 16), i == 15);
            }
            for (int other = 0; other < 4; other++) {
                Due.is("has(" + other + ", 0, 15)", c.has(other, 0, 15), other == s);
            }
        }
    }

    private static void hasOutOfRange() {
        Due.sentence("Promise 4: false for numbers out of range");
        CellUnion forSets = allFull();
        for (int s : Plane.outside(3)) {
            Due.is("has(" + s + ", 0, 0)", forSets.has(s, 0, 0), false);
            Due.is("has(" + s + ", 15, 15)", forSets.has(s, 15, 15), false);
        }
        for (int s = 0; s < 4; s++) {
            CellUnion forX = allFull();
            CellUnion forY = allFull();
            for (int n : Plane.outside(15)) {
                Due.is("has(" + s + ", " + n + ", 0)", forX.has(s, n, 0), false);
                Due.is("has(" + s + ", " + n + ", 15)", forX.has(s, n, 15), false);
                Due.is("has(" + s + ", 0, " + n + ")", forY.has(s, 0, n), false);
                Due.is("has(" + s + ", 15, " + n + ")", forY.has(s, 15, n), false);
            }
            CellUnion c = allFull();
            Due.is("all below", c.has(-1, -1, -1), false);
            Due.is("all above", c.has(4, 16, 16), false);
            // Where cells are held row by row, each of these would be some other cell's place.
            Due.is("one row on, one cell back", c.has(s, 1, -1), false);
            Due.is("one row back, one cell on", c.has(s, -1, 16), false);
            Due.is("one set on", c.has(s, -16, 0), false);
            Due.is("one set back", c.has(s, 16, 0), false);
        }
    }

    private static void cells() {
        Due.sentence("Promise 5: the number of cells of a set");
        for (int s = 0; s < 4; s++) {
            CellUnion c = new CellUnion();
            Due.is("none", c.cells(s), 0);
            c.change(s, Plane.cell(255), true);
            Due.is("the last cell", c.cells(s), 1);
            c.change(s, 0, true);
            Due.is("all", c.cells(s), 256);
            c.change(s, Plane.cell(0), false);
            Due.is("all but the first", c.cells(s), 255);
            c.change(s, 0, false);
            Due.is("none again", c.cells(s), 0);
        }
    }

    private static void cellsOutside() {
        Due.sentence("Promise 5: BAD for s outside 0..3");
        CellUnion c = allFull();
        CellUnion empty = new CellUnion();
        for (int s : Plane.outside(3)) {
            Due.is("cells(" + s + ")", c.cells(s), Plane.BAD);
            Due.is("of empty sets, cells(" + s + ")", empty.cells(s), Plane.BAD);
        }
    }

    private static void stretches() {
        Due.sentence("Promise 6: the number of stretches of a set");
        for (int s = 0; s < 4; s++) {
            CellUnion c = new CellUnion();
            Due.is("none", c.stretches(s), 0);
            for (int i = 0; i < 40; i++) {
                Plane.add(c, s, 255 - 3 * i);
                Due.is("stretches of " + (i + 1), c.stretches(s), i + 1);
            }
            Plane.add(c, s, 0);
            Due.is("after a refused one", c.stretches(s), 40);
            c.change(s, 0, true);
            Due.is("all", c.stretches(s), 1);
            Plane.takeOut(c, s, 0);
            Due.is("all but the first", c.stretches(s), 1);
            Plane.takeOut(c, s, 255);
            Due.is("all but the ends", c.stretches(s), 1);
            Plane.takeOut(c, s, 128);
            Due.is("and one in the middle", c.stretches(s), 2);
        }
    }

    private static void stretchesOutside() {
        Due.sentence("Promise 6: BAD for s outside 0..3");
        CellUnion c = allFull();
        CellUnion empty = new CellUnion();
        for (int s : Plane.outside(3)) {
            Due.is("stretches(" + s + ")", c.stretches(s), Plane.BAD);
            Due.is("of empty sets, stretches(" + s + ")", empty.stretches(s), Plane.BAD);
        }
    }

    private static void pieces() {
        Due.sentence("Promise 7: the number of pieces of a set");
        for (int s = 0; s < 4; s++) {
            CellUnion c = new CellUnion();
            Due.is("none", c.pieces(s), 0);
            c.change(s, Plane.cell(255), true);
            Due.is("the last cell", c.pieces(s), 1);
            c.change(s, 0, true);
            Due.is("all", c.pieces(s), 1);
            c.change(s, Plane.cell(0), false);
            Due.is("all but the first", c.pieces(s), 12);
            c.change(s, Plane.cell(255), false);
            Due.is("all but the ends", c.pieces(s), 20);
            Due.is("the most", mostPieces(s).pieces(s), 192);
            Due.is("at 40 stretches", Plane.atLimit().pieces(s), s < 2 ? 40 : 1);
        }
    }

    private static void piecesOutside() {
        Due.sentence("Promise 7: BAD for s outside 0..3");
        CellUnion c = allFull();
        CellUnion empty = new CellUnion();
        for (int s : Plane.outside(3)) {
            Due.is("pieces(" + s + ")", c.pieces(s), Plane.BAD);
            Due.is("of empty sets, pieces(" + s + ")", empty.pieces(s), Plane.BAD);
        }
    }

    private static void pieceInOrder() {
        Due.sentence("Promise 8: piece number k, from 0, in the order of the curve numbers of their cells");
        for (int s = 0; s < 4; s++) {
            CellUnion c = mostPieces(s);
            int k = 0;
            for (int n = 0; n < 256; n++) {
                if (n % 8 != 3 && n % 8 != 4) {
                    Due.is("piece(" + s + ", " + k + ")", c.piece(s, k), 1024 + n);
                    k++;
                }
            }
            Due.is("one past the most", c.piece(s, 192), Plane.NONE);
        }
        CellUnion c = new CellUnion();
        // Put in against the order of the curve, and of levels that rise and fall along it.
        c.change(0, Plane.squareAt(4, 255), true);
        c.change(0, Plane.squareAt(1, 128), true);
        c.change(0, Plane.squareAt(3, 72), true);
        c.change(0, Plane.squareAt(2, 16), true);
        c.change(0, Plane.squareAt(4, 0), true);
        int[] due = {1024, 512 + 16, 768 + 72, 256 + 128, 1024 + 255, Plane.NONE};
        for (int k = 0; k < due.length; k++) {
            Due.is("piece(0, " + k + ")", c.piece(0, k), due[k]);
        }
    }

    private static void pieceAsNumber() {
        Due.sentence("Promise 8: 256 * level + the smallest curve number of its cells");
        for (int level = 0; level <= 4; level++) {
            int columns = 1 << level;
            for (int i = 0; i < columns * columns; i++) {
                CellUnion c = new CellUnion();
                int u = i / columns;
                int v = i % columns;
                c.change(2, Plane.square(level, u, v), true);
                String name = "square " + level + " " + u + " " + v;
                Due.is(name, c.piece(2, 0), 256 * level + Plane.firstNumber(level, u, v));
                Due.is(name + ", a second", c.piece(2, 1), Plane.NONE);
            }
        }
        CellUnion c = allFull();
        Due.is("the smallest", c.piece(0, 0), 0);
        c.change(0, 0, false);
        c.change(0, Plane.square(4, 15, 0), true);
        Due.is("the greatest", c.piece(0, 0), 1279);
    }

    private static void noPiece() {
        Due.sentence("Promise 8: NONE if there is no piece k");
        for (int s = 0; s < 4; s++) {
            CellUnion empty = new CellUnion();
            CellUnion one = allFull();
            for (int k : ANY_K) {
                Due.is("empty, piece(" + s + ", " + k + ")", empty.piece(s, k), Plane.NONE);
                Due.is("one, piece(" + s + ", " + k + ")", one.piece(s, k), k == 0 ? 0 : Plane.NONE);
            }
            CellUnion most = mostPieces(s);
            for (int k : Plane.outside(191)) {
                Due.is("192, piece(" + s + ", " + k + ")", most.piece(s, k), Plane.NONE);
            }
        }
        CellUnion limit = Plane.atLimit();
        Due.is("the last of 40", limit.piece(0, 39), 1024 + 78);
        Due.is("one past the last of 40", limit.piece(0, 40), Plane.NONE);
        Due.is("the last of the next set", limit.piece(1, 39), 1024 + 178);
        Due.is("one past it", limit.piece(1, 40), Plane.NONE);
    }

    private static void pieceOutside() {
        Due.sentence("Promise 8: BAD for s outside 0..3");
        CellUnion c = allFull();
        for (int s : Plane.outside(3)) {
            Due.is("piece(" + s + ", 0)", c.piece(s, 0), Plane.BAD);
        }
    }

    private static void number() {
        Due.sentence("Promise 9: the curve number of a cell");
        CellUnion c = new CellUnion();
        int[][] corners = {{0, 0, 0}, {0, 15, 85}, {15, 15, 170}, {15, 0, 255}};
        for (int[] row : corners) {
            Due.is("number(" + row[0] + ", " + row[1] + ")", c.number(row[0], row[1]), row[2]);
        }
        CellUnion full = allFull();
        Due.is("with full sets too", full.number(15, 15), 170);
    }

    private static void numberOutside() {
        Due.sentence("Promise 9: BAD for x or y outside 0..15");
        CellUnion forX = new CellUnion();
        CellUnion forY = new CellUnion();
        for (int n : Plane.outside(15)) {
            Due.is("number(" + n + ", 0)", forX.number(n, 0), Plane.BAD);
            Due.is("number(" + n + ", 15)", forX.number(n, 15), Plane.BAD);
            Due.is("number(0, " + n + ")", forY.number(0, n), Plane.BAD);
            Due.is("number(15, " + n + ")", forY.number(15, n), Plane.BAD);
        }
        CellUnion c = new CellUnion();
        Due.is("both below", c.number(-1, -1), Plane.BAD);
        Due.is("both above", c.number(16, 16), Plane.BAD);
        Due.is("one below, one above", c.number(-1, 16), Plane.BAD);
    }

    private static void place() {
        Due.sentence("Promise 10: 16 * x + y of the cell with a curve number");
        CellUnion c = new CellUnion();
        for (int n = 0; n < 256; n++) {
            Due.is("place(" + n + ")", c.place(n), Plane.CURVE[n]);
        }
        Due.is("the first", c.place(0), 0);
        Due.is("the last", c.place(255), 240);
        Due.is("x is the greater part", c.place(1), 16);
        Due.is("the greatest place", c.place(170), 255);
    }

    private static void placeOutside() {
        Due.sentence("Promise 10: BAD for n outside 0..255");
        CellUnion c = allFull();
        for (int n : Plane.outside(255)) {
            Due.is("place(" + n + ")", c.place(n), Plane.BAD);
        }
    }

    private static void nth() {
        Due.sentence("Promise 11: 16 * x + y of the k-th cell, from 0, in the order of curve numbers");
        for (int s = 0; s < 4; s++) {
            CellUnion c = allFull();
            for (int k = 0; k < 256; k++) {
                Due.is("nth(" + s + ", " + k + ")", c.nth(s, k), Plane.CURVE[k]);
            }
            c.change(s, Plane.cell(0), false);
            Due.is("the first of 255", c.nth(s, 0), 16);
            Due.is("the last of 255", c.nth(s, 254), 240);
            c.change(s, Plane.cell(255), false);
            Due.is("the last of 254", c.nth(s, 253), Plane.CURVE[254]);
            c.change(s, 0, false);
            c.change(s, Plane.cell(255), true);
            Due.is("the only one", c.nth(s, 0), 240);
        }
    }

    private static void noNth() {
        Due.sentence("Promise 11: NONE if there is none");
        for (int s = 0; s < 4; s++) {
            CellUnion empty = new CellUnion();
            for (int k : ANY_K) {
                Due.is("empty, nth(" + s + ", " + k + ")", empty.nth(s, k), Plane.NONE);
            }
            CellUnion all = allFull();
            for (int k : Plane.outside(255)) {
                Due.is("all, nth(" + s + ", " + k + ")", all.nth(s, k), Plane.NONE);
            }
            all.change(s, Plane.cell(77), false);
            Due.is("one past the last of 255", all.nth(s, 255), Plane.NONE);
            all.change(s, 0, false);
            Due.is("emptied", all.nth(s, 0), Plane.NONE);
        }
    }

    private static void nthOutside() {
        Due.sentence("Promise 11: BAD for s outside 0..3");
        CellUnion c = allFull();
        for (int s : Plane.outside(3)) {
            Due.is("nth(" + s + ", 0)", c.nth(s, 0), Plane.BAD);
        }
    }

    private static void touched() {
        Due.sentence("Promise 12: the number of squares of a level that have some cell of the set");
        for (int n = 0; n < 256; n++) {
            CellUnion c = new CellUnion();
            Plane.add(c, 3, n);
            for (int level = 0; level <= 4; level++) {
                Due.is("cell " + n + ", touched(3, " + level + ")", c.touched(3, level), 1);
            }
        }
        for (int level = 1; level <= 4; level++) {
            int length = 256 >> (2 * level);
            CellUnion c = new CellUnion();
            Plane.add(c, 0, length - 1);
            Plane.add(c, 0, 0);
            Due.is("ends of one square of level " + level, c.touched(0, level), 1);
            Plane.add(c, 0, length);
            Due.is("and one of the next", c.touched(0, level), 2);
            Plane.add(c, 0, 255);
            Due.is("and one of the last", c.touched(0, level), 3);
            Due.is("and as level 0", c.touched(0, 0), 1);
        }
        CellUnion most = mostPieces(1);
        int[] due = {1, 4, 16, 64, 192};
        for (int level = 0; level <= 4; level++) {
            Due.is("192 cells, level " + level, most.touched(1, level), due[level]);
        }
    }

    private static void touchedEmptyAndAll() {
        Due.sentence("Promise 12: none of an empty set, every one of a set of all cells");
        int[] all = {1, 4, 16, 64, 256};
        for (int s = 0; s < 4; s++) {
            CellUnion full = allFull();
            CellUnion empty = new CellUnion();
            for (int level = 0; level <= 4; level++) {
                Due.is("all, touched(" + s + ", " + level + ")", full.touched(s, level), all[level]);
                Due.is("none, touched(" + s + ", " + level + ")", empty.touched(s, level), 0);
            }
        }
    }

    private static void touchedOutside() {
        Due.sentence("Promise 12: BAD for s outside 0..3 or level outside 0..4");
        List<Supplier<CellUnion>> builds = List.of(CellUnion::new, EdgesOfAnswersTest::allFull);
        for (Supplier<CellUnion> build : builds) {
            CellUnion forSets = build.get();
            for (int s : Plane.outside(3)) {
                Due.is("touched(" + s + ", 0)", forSets.touched(s, 0), Plane.BAD);
                Due.is("touched(" + s + ", 4)", forSets.touched(s, 4), Plane.BAD);
            }
            for (int s = 0; s < 4; s++) {
                CellUnion c = build.get();
                for (int level : Plane.outside(4)) {
                    Due.is("touched(" + s + ", " + level + ")", c.touched(s, level), Plane.BAD);
                }
            }
            CellUnion c = build.get();
            Due.is("both below", c.touched(-1, -1), Plane.BAD);
            Due.is("both above", c.touched(4, 5), Plane.BAD);
        }
    }

    private static void setBeforeK() {
        Due.sentence("Promise 13: piece and nth test s first: BAD if it is outside 0..3, whatever k is");
        for (int k : ANY_K) {
            CellUnion full = allFull();
            CellUnion empty = new CellUnion();
            for (int s : Plane.outside(3)) {
                Due.is("piece(" + s + ", " + k + ")", full.piece(s, k), Plane.BAD);
                Due.is("nth(" + s + ", " + k + ")", full.nth(s, k), Plane.BAD);
                Due.is("empty, piece(" + s + ", " + k + ")", empty.piece(s, k), Plane.BAD);
                Due.is("empty, nth(" + s + ", " + k + ")", empty.nth(s, k), Plane.BAD);
            }
        }
    }

    private static void changeBadBeforeFull() {
        Due.sentence("Promise 13: change tests BAD before FULL");
        int tooMuch = Plane.cell(240);
        CellUnion c = Plane.atLimit();
        Due.is("FULL", c.change(0, tooMuch, true), Plane.FULL);
        for (int s : Plane.outside(3)) {
            Due.is("change(" + s + ", " + tooMuch + ", true)", c.change(s, tooMuch, true), Plane.BAD);
        }
        Plane.leavesAll("wrong squares at 40 stretches", Plane::atLimit, limit -> {
            for (int square : new int[] {-1, 1, 32, 1024 + 2, 1024 + 64, 4096 + 16, 4096 + 512, 5120,
                    tooMuch - 8192, tooMuch + 8192, tooMuch | Integer.MIN_VALUE, Integer.MAX_VALUE}) {
                Due.is("change(0, " + square + ", true)", limit.change(0, square, true), Plane.BAD);
                Due.is("change(1, " + square + ", false)", limit.change(1, square, false), Plane.BAD);
            }
        });
    }

    private static void combineBadBeforeFull() {
        Due.sentence("Promise 13: combine tests BAD before FULL");
        CellUnion c = Plane.atLimit();
        Due.is("FULL", c.combine(3, 1, 0, 1), Plane.FULL);
        for (int s : Plane.outside(3)) {
            Due.is("d is " + s, c.combine(s, 1, 0, 1), Plane.BAD);
        }
        for (int how : Plane.outside(2)) {
            Due.is("how is " + how, c.combine(3, how, 0, 1), Plane.BAD);
        }
        CellUnion other = Plane.atLimit();
        for (int s : Plane.outside(3)) {
            Due.is("a is " + s, other.combine(3, 1, s, 1), Plane.BAD);
            Due.is("b is " + s, other.combine(3, 1, 0, s), Plane.BAD);
        }
    }

    private static void askingChangesNothing() {
        Due.sentence("Promises 4 to 12: asking, rightly or wrongly, changes nothing");
        List<Supplier<CellUnion>> builds = List.of(Plane::mixed, Plane::atLimit);
        for (Supplier<CellUnion> build : builds) {
            Plane.leavesAll("asking", build, c -> {
                for (int n : new int[] {-1, 0, 1, 3, 4, 5, 40, 256, Integer.MAX_VALUE}) {
                    askAll(c, n);
                }
            });
        }
    }

    private static void askAll(CellUnion c, int n) {
        c.has(n, 0, 0);
        c.has(0, n, n);
        c.cells(n);
        c.stretches(n);
        c.pieces(n);
        c.piece(0, n);
        c.piece(n, 0);
        c.number(n, n);
        c.place(n);
        c.nth(1, n);
        c.nth(n, 0);
        c.touched(2, n);
        c.touched(n, 2);
    }
}

/** The edges that 'What it is', 'Terms' and promise 1 name, a test for each sentence. */
public final class EdgesOfTermsTest {
    public static void main(String[] args) {
        used512Times();
        planeOf16By16();
        squareOfLevel0To4();
        cellsOfSquare();
        curveFrom0To255();
        quarters();
        exchanged();
        bothAtOnce();
        fourSets();
        emptyInTheBeginning();
        largestAtCell();
        largestOfAllLevels();
        noSquareByChance();
        piecesOnce();
        newObject();
        Due.end();
    }

    private static void used512Times() {
        Due.sentence("What it is: an object is used for at most 512 calls after it has been made");
        CellUnion c = new CellUnion();
        for (int i = 0; i < 511; i++) {
            Due.is("call " + (i + 1), c.change(0, 0, i % 2 == 0), i % 2 == 0 ? 256 : 0);
        }
        Due.is("call 512", c.cells(0), 256);

        c = new CellUnion();
        for (int i = 0; i < 511; i++) {
            Due.is("BAD call " + (i + 1), c.change(4, 0, true), Plane.BAD);
        }
        Due.is("call 512 after BAD", c.change(3, 0, true), 256);

        c = new CellUnion();
        Plane.addApart(c, 1, 0, 40);
        for (int i = 40; i < 511; i++) {
            Due.is("FULL call " + (i + 1), c.change(1, Plane.cell(100), true), Plane.FULL);
        }
        Due.is("call 512 after FULL", c.change(1, Plane.cell(1), true), 41);

        c = new CellUnion();
        c.change(2, Plane.square(1, 1, 1), true);
        for (int i = 1; i < 511; i++) {
            Due.is("asking call " + (i + 1), c.nth(2, i % 64), Plane.CURVE[128 + i % 64]);
        }
        Due.is("call 512 after asking", c.combine(0, 1, 2, 2), 64);
    }

    private static void planeOf16By16() {
        Due.sentence("Terms: 16 by 16 cells; x and y from 0 to 15");
        CellUnion c = new CellUnion();
        Due.is("all cells", c.change(0, 0, true), 256);
        for (int i = 0; i < 16; i++) {
            Due.is("has(0, 0, " + i + ")", c.has(0, 0, i), true);
            Due.is("has(0, 15, " + i + ")", c.has(0, 15, i), true);
            Due.is("has(0, " + i + ", 0)", c.has(0, i, 0), true);
            Due.is("has(0, " + i + ", 15)", c.has(0, i, 15), true);
            Due.is("has(0, -1, " + i + ")", c.has(0, -1, i), false);
            Due.is("has(0, 16, " + i + ")", c.has(0, 16, i), false);
            Due.is("has(0, " + i + ", -1)", c.has(0, i, -1), false);
            Due.is("has(0, " + i + ", 16)", c.has(0, i, 16), false);
        }
    }

    private static void squareOfLevel0To4() {
        Due.sentence("Terms: a square of level k (0 to 4) with column u and row v (each from 0 to 2^k - 1)");
        int[] size = {256, 64, 16, 4, 1};
        for (int level = 0; level <= 4; level++) {
            int last = (1 << level) - 1;
            int[][] corners = {{0, 0}, {0, last}, {last, 0}, {last, last}};
            for (int[] corner : corners) {
                CellUnion c = new CellUnion();
                int square = Plane.square(level, corner[0], corner[1]);
                Due.is("change(0, " + square + ", true)", c.change(0, square, true), size[level]);
            }
        }
        CellUnion c = new CellUnion();
        Due.is("level 5", c.change(0, Plane.square(5, 0, 0), true), Plane.BAD);
    }

    private static void cellsOfSquare() {
        Due.sentence("Terms: the cells with u * s <= x < (u + 1) * s and v * s <= y < (v + 1) * s");
        for (int level = 0; level <= 4; level++) {
            int columns = 1 << level;
            for (int i = 0; i < columns * columns; i++) {
                edgesOfSquare(level, i / columns, i % columns);
            }
        }
    }

    private static void edgesOfSquare(int level, int u, int v) {
        CellUnion c = new CellUnion();
        String name = "square " + level + " " + u + " " + v + ": ";
        int side = 16 >> level;
        int low = u * side;
        int high = low + side - 1;
        int lowY = v * side;
        int highY = lowY + side - 1;
        c.change(3, Plane.square(level, u, v), true);
        Due.is(name + "lowest corner", c.has(3, low, lowY), true);
        Due.is(name + "lowest x, highest y", c.has(3, low, highY), true);
        Due.is(name + "highest x, lowest y", c.has(3, high, lowY), true);
        Due.is(name + "highest corner", c.has(3, high, highY), true);
        for (int i = 0; i < side; i++) {
            Due.is(name + "before x", c.has(3, low - 1, lowY + i), false);
            Due.is(name + "after x", c.has(3, high + 1, lowY + i), false);
            Due.is(name + "before y", c.has(3, low + i, lowY - 1), false);
            Due.is(name + "after y", c.has(3, low + i, highY + 1), false);
        }
    }

    private static void curveFrom0To255() {
        Due.sentence("Terms: the curve numbers the cells from 0 to 255");
        CellUnion c = new CellUnion();
        boolean[] seen = new boolean[256];
        for (int i = 0; i < 256; i++) {
            int n = c.number(i / 16, i % 16);
            Due.is("number of " + i + " is from 0 to 255", n >= 0 && n <= 255, true);
            if (n >= 0 && n <= 255) {
                Due.is("number " + n + " is another cell's too", seen[n], false);
                seen[n] = true;
            }
        }
        Due.is("the first cell", c.number(0, 0), 0);
        Due.is("the last cell", c.number(15, 0), 255);
    }

    private static void quarters() {
        Due.sentence("Terms: the quarter q is 0, 1, 2 or 3");
        CellUnion c = new CellUnion();
        int[][] first = {{0, 0, 0}, {7, 7, 42}, {0, 8, 64}, {7, 8, 127}, {8, 8, 128}, {15, 8, 191},
            {8, 7, 213}, {15, 7, 192}, {0, 7, 63}, {7, 0, 21}, {8, 0, 234}};
        for (int[] row : first) {
            String call = "number(" + row[0] + ", " + row[1] + ")";
            Due.is(call, c.number(row[0], row[1]), row[2]);
        }
        for (int i = 0; i < 256; i++) {
            int x = i / 16;
            int y = i % 16;
            int q = x < 8 ? (y < 8 ? 0 : 1) : (y < 8 ? 3 : 2);
            Due.is("quarter of " + x + " " + y, c.number(x, y) / 64, q);
        }
    }

    private static void exchanged() {
        Due.sentence("Terms: if q is 0, x and y are exchanged");
        CellUnion c = new CellUnion();
        Due.is("number(1, 0)", c.number(1, 0), 1);
        Due.is("number(0, 1)", c.number(0, 1), 3);
        Due.is("number(0, 2)", c.number(0, 2), 4);
        Due.is("number(2, 0)", c.number(2, 0), 14);
        for (int i = 0; i < 64; i++) {
            int x = i / 8;
            int y = i % 8;
            Due.is("number(" + x + ", " + y + ")", c.number(x, y), Plane.number(x, y));
        }
    }

    private static void bothAtOnce() {
        Due.sentence("Terms: if q is 3, x becomes 15 - y and y becomes 15 - x, both at once");
        CellUnion c = new CellUnion();
        Due.is("number(9, 0)", c.number(9, 0), 235);
        for (int i = 0; i < 64; i++) {
            int x = 8 + i / 8;
            int y = i % 8;
            Due.is("number(" + x + ", " + y + ")", c.number(x, y), Plane.number(x, y));
        }
        for (int i = 0; i < 256; i++) {
            Due.is("number of " + i, c.number(i / 16, i % 16), Plane.number(i / 16, i % 16));
        }
    }

    private static void fourSets() {
        Due.sentence("Terms: four sets of cells, 0 to 3");
        int[] size = {256, 64, 16, 4};
        CellUnion c = new CellUnion();
        for (int s = 0; s < 4; s++) {
            Due.is("into " + s, c.change(s, Plane.square(s, 0, 0), true), size[s]);
        }
        for (int s = 0; s < 4; s++) {
            Due.is("cells(" + s + ")", c.cells(s), size[s]);
        }
        Due.is("cells(-1)", c.cells(-1), Plane.BAD);
        Due.is("cells(4)", c.cells(4), Plane.BAD);
    }

    private static void emptyInTheBeginning() {
        Due.sentence("Terms: empty in the beginning");
        for (int s = 0; s < 4; s++) {
            CellUnion c = new CellUnion();
            for (int n = 0; n < 256; n++) {
                Due.is("cell " + n + " in " + s, Plane.has(c, s, n), false);
            }
            for (int a = 0; a < 4; a++) {
                Due.is("or of " + s + " and " + a, c.combine(s, 1, s, a), 0);
            }
        }
    }

    private static void largestAtCell() {
        Due.sentence("Terms: largest is the square of smallest level that has the cell");
        CellUnion c = new CellUnion();
        c.change(0, 0, true);
        Due.is("pieces of the plane", c.pieces(0), 1);
        Due.is("the plane", c.piece(0, 0), 0);
        c.change(0, Plane.cell(255), false);
        Due.is("pieces without the last cell", c.pieces(0), 12);
        int[] due = {256, 256 + 64, 256 + 128, 512 + 192, 512 + 208, 512 + 224,
            768 + 240, 768 + 244, 768 + 248, 1024 + 252, 1024 + 253, 1024 + 254};
        for (int k = 0; k < due.length; k++) {
            Due.is("piece(0, " + k + ")", c.piece(0, k), due[k]);
        }
        c.change(0, Plane.cell(255), true);
        Due.is("the plane again", c.pieces(0), 1);
    }

    private static void largestOfAllLevels() {
        Due.sentence("Terms: and all of whose cells are in the set");
        for (int level = 0; level < 4; level++) {
            int columns = 1 << level;
            for (int i = 0; i < columns * columns; i++) {
                for (int missing = 0; missing < 4; missing++) {
                    fourOfOne(level, i / columns, i % columns, missing);
                }
            }
        }
    }

    /** Three squares are three pieces; the fourth makes them one of the next smaller level. */
    private static void fourOfOne(int level, int u, int v, int missing) {
        CellUnion c = new CellUnion();
        String name = "square " + level + " " + u + " " + v + " without " + missing;
        for (int i = 0; i < 4; i++) {
            if (i != missing) {
                c.change(1, Plane.square(level + 1, 2 * u + i / 2, 2 * v + i % 2), true);
            }
        }
        Due.is(name, c.pieces(1), 3);
        Due.is(name + ", first piece", c.piece(1, 0) / 256, level + 1);
        c.change(1, Plane.square(level + 1, 2 * u + missing / 2, 2 * v + missing % 2), true);
        Due.is(name + ", then with", c.pieces(1), 1);
        int first = Plane.firstNumber(level, u, v);
        Due.is(name + ", then its piece", c.piece(1, 0), 256 * level + first);
        c.change(1, Plane.square(level + 1, 2 * u + missing / 2, 2 * v + missing % 2), false);
        Due.is(name + ", then without", c.pieces(1), 3);
    }

    private static void noSquareByChance() {
        Due.sentence("Terms: a square begins at u * s and v * s alone");
        for (int level = 1; level <= 4; level++) {
            CellUnion c = new CellUnion();
            int columns = 1 << level;
            int middle = columns / 2;
            for (int i = 0; i < 4; i++) {
                c.change(2, Plane.square(level, middle - 1 + i / 2, middle - 1 + i % 2), true);
            }
            Due.is("four of level " + level + " about the middle", c.pieces(2), level == 1 ? 1 : 4);
        }
        for (int from = 1; from < 4; from++) {
            CellUnion c = new CellUnion();
            for (int n = from; n < from + 4; n++) {
                Plane.add(c, 2, n);
            }
            Due.is("four cells of the curve from " + from, c.pieces(2), 4);
        }
    }

    private static void piecesOnce() {
        Due.sentence("Terms: the pieces are the squares that are largest at some of its cells");
        CellUnion c = new CellUnion();
        for (int level = 4; level >= 0; level--) {
            c.change(0, Plane.square(level, 0, 0), true);
            Due.is("squares inside each other", c.pieces(0), 1);
            Due.is("the largest of them", c.piece(0, 0), 256 * level);
            Due.is("no second one", c.piece(0, 1), Plane.NONE);
        }
    }

    private static void newObject() {
        Due.sentence("Promise 1: all four sets are empty");
        for (int s = 0; s < 4; s++) {
            CellUnion c = new CellUnion();
            Due.is("cells(" + s + ")", c.cells(s), 0);
            Due.is("stretches(" + s + ")", c.stretches(s), 0);
            Due.is("pieces(" + s + ")", c.pieces(s), 0);
            Due.is("piece(" + s + ", 0)", c.piece(s, 0), Plane.NONE);
            Due.is("nth(" + s + ", 0)", c.nth(s, 0), Plane.NONE);
            for (int level = 0; level <= 4; level++) {
                Due.is("touched(" + s + ", " + level + ")", c.touched(s, level), 0);
            }
        }
        CellUnion used = new CellUnion();
        for (int s = 0; s < 4; s++) {
            used.change(s, 0, true);
        }
        CellUnion later = new CellUnion();
        for (int s = 0; s < 4; s++) {
            Due.is("one made later, cells(" + s + ")", later.cells(s), 0);
        }
    }
}

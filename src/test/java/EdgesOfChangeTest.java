import java.util.function.Supplier;

/** The edges that promise 2 names, a test for each sentence or part of one. */
public final class EdgesOfChangeTest {
    public static void main(String[] args) {
        adds();
        takesOut();
        ownSetAlone();
        squareAsNumber();
        setOutside();
        levelOutside();
        columnOrRowOutside();
        negative();
        everyNumberNear();
        fullByAdding();
        fullByTakingOut();
        fullInEachSet();
        notFullAtForty();
        fullChangesNothing();
        answersCells();
        stretchOfTheCurve();
        noWrapAround();
        Due.end();
    }

    private static void adds() {
        Due.sentence("Promise 2: adds (in true) the cells of a square to set s");
        CellUnion c = new CellUnion();
        Due.is("to an empty set", c.change(0, Plane.square(2, 3, 3), true), 16);
        Due.is("all in it already", c.change(0, Plane.square(2, 3, 3), true), 16);
        Due.is("inside of one", c.change(0, Plane.square(4, 15, 15), true), 16);
        Due.is("partly in it", c.change(0, Plane.square(1, 1, 1), true), 64);
        Due.is("all cells", c.change(0, Plane.square(0, 0, 0), true), 256);
        Due.is("all cells again", c.change(0, Plane.square(0, 0, 0), true), 256);
        Due.is("to a set of all", c.change(0, Plane.square(4, 0, 15), true), 256);
    }

    private static void takesOut() {
        Due.sentence("Promise 2: or takes them out of it");
        CellUnion c = new CellUnion();
        Due.is("a cell out of an empty set", c.change(0, Plane.square(4, 0, 0), false), 0);
        Due.is("all out of an empty set", c.change(0, 0, false), 0);
        c.change(0, 0, true);
        Due.is("a cell out of all", c.change(0, Plane.square(4, 15, 15), false), 255);
        Due.is("the same again", c.change(0, Plane.square(4, 15, 15), false), 255);
        Due.is("a square that is partly in", c.change(0, Plane.square(3, 7, 7), false), 252);
        Due.is("all that is left", c.change(0, 0, false), 0);
        Due.is("then nothing is in", c.stretches(0), 0);
        Due.is("and it can be added again", c.change(0, 0, true), 256);
    }

    private static void ownSetAlone() {
        Due.sentence("Promise 2: to set s, or out of it");
        for (int s = 0; s < 4; s++) {
            CellUnion c = Plane.mixed();
            CellUnion before = Plane.mixed();
            c.change(s, Plane.square(2, 1, 2), true);
            c.change(s, Plane.square(2, 2, 2), false);
            for (int other = 0; other < 4; other++) {
                if (other != s) {
                    Due.is("cells of " + other + " after " + s, c.cells(other), before.cells(other));
                    Due.is("pieces of " + other + " after " + s, c.pieces(other), before.pieces(other));
                }
            }
        }
    }

    private static void squareAsNumber() {
        Due.sentence("Promise 2: square is 1024 * level + 32 * u + v");
        CellUnion c = new CellUnion();
        Due.is("the smallest", c.change(0, 0, true), 256);
        Due.is("the greatest", c.change(1, 4591, true), 1);
        Due.is("its cell", c.has(1, 15, 15), true);
        Due.is("u alone", c.change(2, 4096 + 32 * 15, true), 1);
        Due.is("its cell", c.has(2, 15, 0), true);
        Due.is("v alone", c.change(3, 4096 + 15, true), 1);
        Due.is("its cell", c.has(3, 0, 15), true);
    }

    private static void setOutside() {
        Due.sentence("Promise 2: s outside 0..3: BAD");
        for (boolean in : new boolean[] {true, false}) {
            Plane.leavesAll("change of a wrong set", Plane::mixed, c -> {
                for (int s : Plane.outside(3)) {
                    Due.is("change(" + s + ", 1024, " + in + ")", c.change(s, 1024, in), Plane.BAD);
                }
            });
        }
    }

    private static void levelOutside() {
        Due.sentence("Promise 2: level 0 to 4, else BAD");
        for (boolean in : new boolean[] {true, false}) {
            Plane.leavesAll("change by a wrong level", Plane::mixed, c -> {
                for (int level = 5; level < 100; level++) {
                    int square = Plane.square(level, 0, 0);
                    Due.is("level " + level, c.change(0, square, in), Plane.BAD);
                }
                Due.is("level 5, u 15, v 15", c.change(0, Plane.square(5, 15, 15), in), Plane.BAD);
                Due.is("level 5, u 31, v 31", c.change(0, Plane.square(5, 31, 31), in), Plane.BAD);
            });
        }
        CellUnion c = new CellUnion();
        Due.is("level 0", c.change(0, Plane.square(0, 0, 0), true), 256);
        Due.is("level 4", c.change(0, Plane.square(4, 0, 0), false), 255);
    }

    private static void columnOrRowOutside() {
        Due.sentence("Promise 2: u and v from 0 to 2^level - 1, else BAD");
        for (int k = 0; k <= 4; k++) {
            int level = k;
            int columns = 1 << level;
            for (boolean in : new boolean[] {true, false}) {
                Plane.leavesAll("change by a wrong u or v", Plane::mixed, c -> {
                    for (int i = columns; i < 32; i++) {
                        wrongSquare(c, Plane.square(level, i, 0), in);
                        wrongSquare(c, Plane.square(level, 0, i), in);
                        wrongSquare(c, Plane.square(level, i, columns - 1), in);
                        wrongSquare(c, Plane.square(level, columns - 1, i), in);
                        wrongSquare(c, Plane.square(level, i, i), in);
                    }
                });
            }
            CellUnion c = new CellUnion();
            int side = 16 >> level;
            int last = Plane.square(level, columns - 1, columns - 1);
            Due.is("the last of level " + level, c.change(0, last, true), side * side);
        }
    }

    private static void wrongSquare(CellUnion c, int square, boolean in) {
        Due.is("change(0, " + square + ", " + in + ")", c.change(0, square, in), Plane.BAD);
    }

    private static void negative() {
        Due.sentence("Promise 2: never negative, else BAD");
        int[] some = {-1, -32, -31, -1023, -1024, -1025, -2048, -4096, -4591, -5120, Integer.MIN_VALUE,
            Integer.MIN_VALUE + 1024, Integer.MIN_VALUE + 4096, Integer.MIN_VALUE + 4591, -8192 + 1024,
            -8192 + 4096, -65536, -65536 + 2048, -(1 << 30), -(1 << 20)};
        for (boolean in : new boolean[] {true, false}) {
            Plane.leavesAll("change by a negative square", Plane::mixed, c -> {
                for (int square : some) {
                    wrongSquare(c, square, in);
                }
            });
        }
    }

    /** Of all numbers that a square could be read from, those of the terms are taken and no others. */
    private static void everyNumberNear() {
        Due.sentence("Promise 2: square not as it must be: BAD");
        boolean[] good = new boolean[5120];
        for (int level = 0; level <= 4; level++) {
            int columns = 1 << level;
            for (int i = 0; i < columns * columns; i++) {
                good[Plane.square(level, i / columns, i % columns)] = true;
            }
        }
        CellUnion c = null;
        for (int square = -5120; square < 3 * 5120; square++) {
            if (square % 256 == 0) {
                c = new CellUnion();
            }
            boolean taken = square >= 0 && square < 5120 && good[square];
            int due = taken ? 256 >> (2 * (square / 1024)) : Plane.BAD;
            Due.is("change(0, " + square + ", true)", c.change(0, square, true), due);
            if (taken) {
                c.change(0, square, false);
            }
        }
        c = new CellUnion();
        for (int square : Plane.outside(5119)) {
            wrongSquare(c, square, true);
        }
    }

    private static void fullByAdding() {
        Due.sentence("Promise 2: the set would have more than 40 stretches: FULL (by adding)");
        CellUnion c = new CellUnion();
        for (int i = 0; i < 40; i++) {
            Due.is("stretch " + (i + 1), c.change(0, Plane.cell(4 * i), true), i + 1);
        }
        Due.is("40 stretches", c.stretches(0), 40);
        Due.is("the 41st, one cell", c.change(0, Plane.cell(162), true), Plane.FULL);
        Due.is("the 41st, between two", c.change(0, Plane.cell(2), true), Plane.FULL);
        Due.is("the 41st, the last cell", c.change(0, Plane.cell(255), true), Plane.FULL);
        Due.is("the 41st, a square", c.change(0, Plane.square(1, 1, 0), true), Plane.FULL);
        Due.is("still 40", c.stretches(0), 40);
    }

    private static void fullByTakingOut() {
        Due.sentence("Promise 2: the set would have more than 40 stretches: FULL (by taking out)");
        CellUnion c = new CellUnion();
        c.change(0, 0, true);
        for (int i = 1; i < 40; i++) {
            Due.is("cut " + i, c.change(0, Plane.cell(4 * i), false), 256 - i);
        }
        Due.is("40 stretches", c.stretches(0), 40);
        Due.is("one cell out of a stretch", c.change(0, Plane.cell(2), false), Plane.FULL);
        Due.is("a square out of a stretch", c.change(0, Plane.square(2, 3, 1), false), Plane.FULL);
        Due.is("the last but one", c.change(0, Plane.cell(254), false), Plane.FULL);
        Due.is("still 40", c.stretches(0), 40);
        Due.is("the last cell is at an end", c.change(0, Plane.cell(255), false), 216);
        Due.is("the first cell is at an end", c.change(0, Plane.cell(0), false), 215);
    }

    private static void fullInEachSet() {
        Due.sentence("Promise 2: the set would have more than 40 stretches (each set by itself)");
        CellUnion c = new CellUnion();
        for (int s = 0; s < 4; s++) {
            Plane.addApart(c, s, 1 + s, 40);
            Due.is("40 stretches in " + s, c.stretches(s), 40);
            Due.is("a 41st in " + s, c.change(s, Plane.cell(200 + s), true), Plane.FULL);
        }
        for (int s = 0; s < 4; s++) {
            Due.is("a cell between in " + s, c.change(s, Plane.cell(2 + s), true), 41);
            Due.is("then a 40th again in " + s, c.change(s, Plane.cell(200 + s), true), 42);
        }
    }

    private static void notFullAtForty() {
        Due.sentence("Promise 2: not more than 40 stretches is not FULL");
        CellUnion c = Plane.atLimit();
        Due.is("a cell that is in", c.change(0, Plane.cell(78), true), 40);
        Due.is("a cell out that is not in", c.change(0, Plane.cell(77), false), 40);
        Due.is("a cell out that is far off", c.change(0, Plane.cell(255), false), 40);
        Due.is("a stretch made longer", c.change(0, Plane.cell(79), true), 41);
        Due.is("a stretch made shorter", c.change(0, Plane.cell(78), false), 40);
        Due.is("two made one", c.change(0, Plane.cell(1), true), 41);
        Due.is("and two again", c.change(0, Plane.cell(1), false), 40);
        Due.is("many made one", c.change(0, Plane.square(1, 0, 0), true), 72);
        Due.is("as stretches", c.stretches(0), 8);
        Due.is("a stretch gone", c.change(1, Plane.cell(100), false), 39);
        Due.is("another come", c.change(1, Plane.cell(0), true), 40);
        Due.is("many gone", c.change(1, Plane.square(1, 1, 1), false), 14);
        Due.is("all", c.change(1, 0, true), 256);
        Due.is("as stretches", c.stretches(1), 1);
        Plane.addApart(c, 3, 0, 39);
        Due.is("all out of 40", c.change(3, 0, false), 0);
    }

    private static void fullChangesNothing() {
        Due.sentence("Promise 2: FULL, and nothing changes");
        Plane.leavesAll("a cell too much", Plane::atLimit,
            c -> Due.is("into 0", c.change(0, Plane.cell(81), true), Plane.FULL));
        Plane.leavesAll("a square too much", Plane::atLimit,
            c -> Due.is("into 1", c.change(1, Plane.square(2, 0, 0), true), Plane.FULL));
        Supplier<CellUnion> cut = () -> {
            CellUnion c = Plane.atLimit();
            for (int i = 1; i < 40; i++) {
                Plane.takeOut(c, 2, 6 * i);
            }
            return c;
        };
        Plane.leavesAll("a cut too much", cut,
            c -> Due.is("out of 2", c.change(2, Plane.cell(3), false), Plane.FULL));
        Plane.leavesAll("a square too much out", cut,
            c -> Due.is("out of 2", c.change(2, Plane.squareAt(3, 240), false), Plane.FULL));
        CellUnion c = Plane.atLimit();
        for (int i = 0; i < 50; i++) {
            Due.is("again and again", c.change(0, Plane.cell(90 + i), true), Plane.FULL);
        }
        Due.is("and it may go on", c.change(0, Plane.cell(3), true), 41);
        Due.is("with one more stretch", c.change(0, Plane.cell(90), true), 42);
        Due.is("and no further", c.change(0, Plane.cell(92), true), Plane.FULL);
    }

    private static void answersCells() {
        Due.sentence("Promise 2: else answers the set's number of cells");
        CellUnion c = new CellUnion();
        for (int n = 0; n < 256; n++) {
            Due.is("with cell " + n, c.change(3, Plane.cell(n), true), n + 1);
        }
        for (int n = 0; n < 255; n++) {
            Due.is("without cell " + n, c.change(3, Plane.cell(n), false), 255 - n);
        }
        Due.is("the last out", c.change(3, Plane.cell(255), false), 0);
    }

    private static void stretchOfTheCurve() {
        Due.sentence("Promise 2: a stretch is a largest run of cells that follow each other on the curve");
        for (int n = 1; n < 256; n++) {
            CellUnion c = new CellUnion();
            Plane.add(c, 0, n - 1);
            Plane.add(c, 0, n);
            Due.is("cells " + (n - 1) + " and " + n, c.stretches(0), 1);
        }
        for (int n = 2; n < 256; n++) {
            CellUnion c = new CellUnion();
            Plane.add(c, 0, n - 2);
            Plane.add(c, 0, n);
            Due.is("cells " + (n - 2) + " and " + n, c.stretches(0), 2);
            Plane.add(c, 0, n - 1);
            Due.is("with the one between", c.stretches(0), 1);
        }
        CellUnion c = new CellUnion();
        c.change(0, Plane.square(4, 7, 0), true);
        c.change(0, Plane.square(4, 8, 0), true);
        Due.is("neighbours in the plane alone", c.stretches(0), 2);
        c.change(1, Plane.square(1, 0, 0), true);
        c.change(1, Plane.square(1, 1, 0), true);
        Due.is("quarters 0 and 3", c.stretches(1), 2);
        c.change(2, Plane.square(1, 0, 0), true);
        c.change(2, Plane.square(1, 0, 1), true);
        Due.is("quarters 0 and 1", c.stretches(2), 1);
    }

    private static void noWrapAround() {
        Due.sentence("Promise 2: cells 255 and 0 do not follow each other");
        CellUnion c = new CellUnion();
        Plane.add(c, 0, 0);
        Plane.add(c, 0, 255);
        Due.is("cells 255 and 0", c.stretches(0), 2);
        Plane.addApart(c, 0, 2, 38);
        Due.is("40 with both ends", c.stretches(0), 40);
        Due.is("a 41st with both ends", c.change(0, Plane.cell(128), true), Plane.FULL);
        Plane.addApart(c, 1, 2, 39);
        Due.is("the last cell is the 40th", c.change(1, Plane.cell(255), true), 40);
        Due.is("the first cell is the 41st", c.change(1, Plane.cell(0), true), Plane.FULL);
    }
}

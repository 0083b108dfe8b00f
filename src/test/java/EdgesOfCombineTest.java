/** The edges that promise 3 names, a test for each sentence or part of one. */
public final class EdgesOfCombineTest {
    private static final boolean[][] MIXED = cellsOfMixed();

    public static void main(String[] args) {
        inBoth();
        inAOrB();
        inAAndNotInB();
        becomes();
        everyChoiceOfSets();
        setsOutside();
        howOutside();
        fullOr();
        fullAnd();
        fullWithout();
        fullCountsResultAlone();
        fullChangesNothing();
        noWrapAround();
        answersCells();
        Due.end();
    }

    /** Set 0 is a quarter, set 1 its half and another quarter, set 2 is empty, set 3 is all. */
    private static CellUnion sets() {
        CellUnion c = new CellUnion();
        c.change(0, Plane.squareAt(1, 0), true);
        c.change(1, Plane.squareAt(2, 0), true);
        c.change(1, Plane.squareAt(2, 16), true);
        c.change(1, Plane.squareAt(1, 255), true);
        c.change(3, 0, true);
        return c;
    }

    /** Rows of a, b and the number of cells that are due, each asked of new sets and into each set. */
    private static void due(int how, int[][] rows) {
        for (int[] row : rows) {
            for (int d = 0; d < 4; d++) {
                String call = "combine(" + d + ", " + how + ", " + row[0] + ", " + row[1] + ")";
                CellUnion c = sets();
                Due.is(call, c.combine(d, how, row[0], row[1]), row[2]);
                Due.is(call + ", then cells(" + d + ")", c.cells(d), row[2]);
            }
        }
    }

    private static void inBoth() {
        Due.sentence("Promise 3: the cells in both a and b (how 0)");
        due(0, new int[][] {{0, 1, 32}, {1, 0, 32}, {0, 2, 0}, {2, 0, 0}, {2, 2, 0}, {0, 3, 64},
            {3, 1, 96}, {3, 3, 256}, {2, 3, 0}, {3, 2, 0}, {1, 1, 96}, {0, 0, 64}});
    }

    private static void inAOrB() {
        Due.sentence("Promise 3: in a or b (how 1)");
        due(1, new int[][] {{0, 1, 128}, {1, 0, 128}, {0, 2, 64}, {2, 0, 64}, {2, 2, 0}, {0, 3, 256},
            {3, 1, 256}, {3, 3, 256}, {2, 3, 256}, {3, 2, 256}, {1, 1, 96}, {0, 0, 64}});
    }

    private static void inAAndNotInB() {
        Due.sentence("Promise 3: in a and not in b (how 2)");
        due(2, new int[][] {{0, 1, 32}, {1, 0, 64}, {0, 2, 64}, {2, 0, 0}, {2, 2, 0}, {0, 3, 0},
            {3, 0, 192}, {3, 1, 160}, {3, 3, 0}, {2, 3, 0}, {3, 2, 256}, {1, 1, 0}, {0, 0, 0}});
    }

    private static void becomes() {
        Due.sentence("Promise 3: set d becomes the cells");
        CellUnion c = sets();
        Due.is("all cells of d go", c.combine(3, 0, 0, 1), 32);
        for (int n = 0; n < 256; n++) {
            Due.is("cell " + n, Plane.has(c, 3, n), n < 32);
        }
        c = sets();
        c.combine(0, 2, 1, 0);
        for (int n = 0; n < 256; n++) {
            Due.is("cell " + n + " with b as d", Plane.has(c, 0, n), n >= 192);
        }
    }

    /** Each set of four different ones as d, a and b, the same one as two or three of them too. */
    private static void everyChoiceOfSets() {
        Due.sentence("Promise 3: d, a and b may be any sets, the same ones too");
        for (int choice = 0; choice < 64; choice++) {
            for (int how = 0; how < 3; how++) {
                oneChoice(choice / 16, how, choice / 4 % 4, choice % 4);
            }
        }
    }

    private static void oneChoice(int d, int how, int a, int b) {
        String call = "combine(" + d + ", " + how + ", " + a + ", " + b + ")";
        for (int s = 0; s < 4; s++) {
            CellUnion c = Plane.mixed();
            c.combine(d, how, a, b);
            for (int n = 0; n < 256; n++) {
                boolean inA = MIXED[a][n];
                boolean inB = MIXED[b][n];
                boolean joined = how == 0 ? inA && inB : how == 1 ? inA || inB : inA && !inB;
                boolean due = s == d ? joined : MIXED[s][n];
                Due.is(call + ", then cell " + n + " in " + s, Plane.has(c, s, n), due);
            }
        }
    }

    private static boolean[][] cellsOfMixed() {
        boolean[][] sets = new boolean[4][256];
        for (int s = 0; s < 4; s++) {
            CellUnion c = Plane.mixed();
            for (int n = 0; n < 256; n++) {
                sets[s][n] = Plane.has(c, s, n);
            }
        }
        return sets;
    }

    private static void setsOutside() {
        Due.sentence("Promise 3: d, a or b outside 0..3: BAD");
        for (int how = 0; how < 3; how++) {
            wrongPart("d", how, 0);
            wrongPart("a", how, 2);
            wrongPart("b", how, 3);
        }
        CellUnion c = Plane.mixed();
        Due.is("all outside", c.combine(4, 3, 4, 4), Plane.BAD);
        Due.is("all below", c.combine(-1, -1, -1, -1), Plane.BAD);
    }

    private static void wrongPart(String name, int how, int part) {
        Plane.leavesAll("combine by a wrong " + name, Plane::mixed, c -> {
            for (int wrong : Plane.outside(3)) {
                int[] with = {2, how, 0, 1};
                with[part] = wrong;
                int got = c.combine(with[0], with[1], with[2], with[3]);
                Due.is("how " + how + ", " + name + " is " + wrong, got, Plane.BAD);
            }
        });
    }

    private static void howOutside() {
        Due.sentence("Promise 3: how outside 0..2: BAD");
        Plane.leavesAll("combine by a wrong how", Plane::mixed, c -> {
            for (int how : Plane.outside(2)) {
                Due.is("combine(3, " + how + ", 0, 1)", c.combine(3, how, 0, 1), Plane.BAD);
            }
        });
    }

    private static CellUnion halves(int more) {
        CellUnion c = new CellUnion();
        Plane.addApart(c, 0, 0, 20);
        Plane.addApart(c, 1, 60, 20 + more);
        return c;
    }

    private static void fullOr() {
        Due.sentence("Promise 3: the result would have more than 40 stretches: FULL (how 1)");
        for (int d = 0; d < 4; d++) {
            Due.is("40 into " + d, halves(0).combine(d, 1, 0, 1), 40);
            Due.is("41 into " + d, halves(1).combine(d, 1, 0, 1), Plane.FULL);
            Due.is("41 the other way into " + d, halves(1).combine(d, 1, 1, 0), Plane.FULL);
            Due.is("60 into " + d, halves(20).combine(d, 1, 0, 1), Plane.FULL);
            Due.is("80 into " + d, Plane.atLimit().combine(d, 1, 0, 1), Plane.FULL);
            Due.is("40 alone into " + d, Plane.atLimit().combine(d, 1, 0, 0), 40);
            Due.is("40 and all into " + d, Plane.atLimit().combine(d, 1, 0, 2), 256);
            Due.is("40 and a cell more into " + d, Plane.atLimit().combine(d, 1, 0, 3), Plane.FULL);
        }
        CellUnion c = new CellUnion();
        Plane.addApart(c, 0, 0, 40);
        Plane.addApart(c, 1, 1, 40);
        Due.is("40 between 40 are one", c.combine(2, 1, 0, 1), 80);
        Due.is("one", c.stretches(2), 1);
    }

    /** Set 0 has 40 stretches of three cells; set 1 lacks the middle ones of so many of them. */
    private static CellUnion threes(int cuts) {
        CellUnion c = new CellUnion();
        c.change(0, Plane.squareAt(1, 0), true);
        c.change(0, Plane.squareAt(1, 64), true);
        c.change(0, Plane.squareAt(2, 128), true);
        c.change(0, Plane.squareAt(2, 144), true);
        for (int i = 0; i < 40; i++) {
            Plane.takeOut(c, 0, 4 * i + 3);
        }
        c.change(1, 0, true);
        for (int i = 0; i < cuts; i++) {
            Plane.takeOut(c, 1, 4 * i + 1);
        }
        return c;
    }

    private static void fullAnd() {
        Due.sentence("Promise 3: the result would have more than 40 stretches: FULL (how 0)");
        for (int d = 0; d < 4; d++) {
            Due.is("40 into " + d, threes(0).combine(d, 0, 0, 1), 120);
            Due.is("41 into " + d, threes(1).combine(d, 0, 0, 1), Plane.FULL);
            Due.is("41 the other way into " + d, threes(1).combine(d, 0, 1, 0), Plane.FULL);
            Due.is("79 into " + d, threes(39).combine(d, 0, 0, 1), Plane.FULL);
            Due.is("no cells into " + d, Plane.atLimit().combine(d, 0, 0, 1), 0);
            Due.is("40 and all into " + d, Plane.atLimit().combine(d, 0, 0, 2), 40);
        }
    }

    private static int withHoles(int count) {
        CellUnion c = new CellUnion();
        c.change(0, 0, true);
        Plane.addApart(c, 1, 1, count);
        return c.combine(2, 2, 0, 1);
    }

    private static void fullWithout() {
        Due.sentence("Promise 3: the result would have more than 40 stretches: FULL (how 2)");
        Due.is("39 holes", withHoles(39), 217);
        Due.is("40 holes", withHoles(40), Plane.FULL);
        for (int d = 0; d < 4; d++) {
            CellUnion c = Plane.atLimit();
            Due.is("40 holes, one at the end, into " + d, c.combine(d, 2, 2, 0), 216);
            Due.is("40 holes into " + d, Plane.atLimit().combine(d, 2, 2, 1), Plane.FULL);
            Due.is("40 without all into " + d, Plane.atLimit().combine(d, 2, 0, 2), 0);
            Due.is("40 without others into " + d, Plane.atLimit().combine(d, 2, 0, 1), 40);
        }
    }

    private static void fullCountsResultAlone() {
        Due.sentence("Promise 3: the result, not what d had before, has the stretches");
        CellUnion c = Plane.atLimit();
        Due.is("one cell into 40", c.combine(0, 1, 3, 3), 1);
        Due.is("as stretches", c.stretches(0), 1);
        Due.is("40 into one cell", c.combine(3, 1, 1, 1), 40);
        Due.is("40 into 40", c.combine(1, 0, 1, 3), 40);
        Due.is("all into 40", c.combine(1, 1, 2, 2), 256);
        Due.is("none into 40", c.combine(3, 2, 3, 3), 0);
    }

    private static void fullChangesNothing() {
        Due.sentence("Promise 3: FULL, and nothing changes");
        for (int i = 0; i < 4; i++) {
            int d = i;
            Plane.leavesAll("80 stretches", Plane::atLimit,
                c -> Due.is("or into " + d, c.combine(d, 1, 0, 1), Plane.FULL));
            Plane.leavesAll("40 holes", Plane::atLimit,
                c -> Due.is("without into " + d, c.combine(d, 2, 2, 1), Plane.FULL));
            Plane.leavesAll("41 stretches", () -> threes(1),
                c -> Due.is("and into " + d, c.combine(d, 0, 0, 1), Plane.FULL));
        }
        CellUnion c = Plane.atLimit();
        Due.is("too much", c.combine(2, 1, 0, 1), Plane.FULL);
        Due.is("then a change", c.change(3, Plane.cell(201), true), 2);
        Due.is("then a combination", c.combine(2, 1, 3, 3), 2);
    }

    private static void noWrapAround() {
        Due.sentence("Promise 3: cells 255 and 0 of the result do not follow each other");
        CellUnion c = new CellUnion();
        Plane.addApart(c, 0, 0, 20);
        Plane.addApart(c, 1, 217, 20);
        Due.is("40 with both ends", c.combine(2, 1, 0, 1), 40);
        Due.is("40", c.stretches(2), 40);
        Plane.add(c, 1, 215);
        Due.is("41 with both ends", c.combine(2, 1, 0, 1), Plane.FULL);
    }

    private static void answersCells() {
        Due.sentence("Promise 3: else answers its number of cells");
        CellUnion c = new CellUnion();
        c.change(1, 0, true);
        for (int n = 0; n < 120; n++) {
            Plane.add(c, 0, n);
            Due.is("or of " + (n + 1), c.combine(2, 1, 0, 0), n + 1);
            Due.is("without " + (n + 1), c.combine(3, 2, 1, 0), 255 - n);
            Due.is("and with " + (n + 1), c.combine(3, 0, 0, 1), n + 1);
        }
        Due.is("all", c.combine(3, 1, 1, 1), 256);
        Due.is("none", c.combine(3, 2, 1, 1), 0);
    }
}

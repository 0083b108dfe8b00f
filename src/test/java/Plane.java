import java.util.TreeSet;
import java.util.function.Consumer;
import java.util.function.Supplier;

/** What the tests of edges share: squares, the curve, wrong numbers, and sets at their limit. */
final class Plane {
    static final int BAD = -1;
    static final int FULL = -2;
    static final int NONE = -3;

    /** 16 * x + y of the cells along the curve, so that a test spends no calls of an object on them. */
    static final int[] CURVE = curve();

    private Plane() {
    }

    static int square(int level, int u, int v) {
        return 1024 * level + 32 * u + v;
    }

    /** The square of a level that has the cell with curve number n. */
    static int squareAt(int level, int n) {
        int side = 16 >> level;
        return square(level, CURVE[n] / 16 / side, CURVE[n] % 16 / side);
    }

    static int cell(int n) {
        return squareAt(4, n);
    }

    static void add(CellUnion c, int s, int n) {
        c.change(s, cell(n), true);
    }

    static void takeOut(CellUnion c, int s, int n) {
        c.change(s, cell(n), false);
    }

    /** Every second cell of the curve from n on, each a stretch of its own. */
    static void addApart(CellUnion c, int s, int n, int count) {
        for (int i = 0; i < count; i++) {
            add(c, s, n + 2 * i);
        }
    }

    static boolean has(CellUnion c, int s, int n) {
        return c.has(s, CURVE[n] / 16, CURVE[n] % 16);
    }

    /** The document's words on the number of a cell, one after the other. */
    static int number(int x, int y) {
        int number = 0;
        for (int w : new int[] {8, 4, 2, 1}) {
            int a = (x & w) != 0 ? 1 : 0;
            int b = (y & w) != 0 ? 1 : 0;
            int q = a == 0 && b == 0 ? 0 : a == 0 && b == 1 ? 1 : a == 1 && b == 1 ? 2 : 3;
            number = 4 * number + q;
            int nextX = q == 0 ? y : q == 3 ? 15 - y : x;
            int nextY = q == 0 ? x : q == 3 ? 15 - x : y;
            x = nextX;
            y = nextY;
        }
        return number;
    }

    /** The smallest curve number of a square's cells. */
    static int firstNumber(int level, int u, int v) {
        int side = 16 >> level;
        int first = 256;
        for (int i = 0; i < side * side; i++) {
            first = Math.min(first, number(u * side + i / side, v * side + i % side));
        }
        return first;
    }

    /**
     * Numbers outside 0..last: the nearest on both sides, the farthest, and for each bit some that
     * look like one inside when the higher bits are lost, as by a mask or a product that wraps.
     */
    static int[] outside(int last) {
        TreeSet<Integer> numbers = new TreeSet<>();
        for (int bit = 0; bit < 32; bit++) {
            int n = 1 << bit;
            int[] some = {n, n | last, -n, last + n, Integer.MAX_VALUE, Integer.MIN_VALUE | last};
            for (int candidate : some) {
                if (candidate < 0 || candidate > last) {
                    numbers.add(candidate);
                }
            }
        }
        return numbers.stream().mapToInt(Integer::intValue).toArray();
    }

    /** Four sets, each with other cells than the others. */
    static CellUnion mixed() {
        CellUnion c = new CellUnion();
        c.change(0, square(1, 0, 0), true);
        c.change(0, square(1, 0, 1), true);
        c.change(1, square(1, 0, 1), true);
        c.change(1, square(2, 2, 2), true);
        c.change(2, 0, true);
        c.change(2, square(3, 5, 2), false);
        c.change(3, square(4, 15, 0), true);
        return c;
    }

    /** Sets 0 and 1 have 40 stretches each and no cell in common; set 2 is all; set 3 is one cell. */
    static CellUnion atLimit() {
        CellUnion c = new CellUnion();
        addApart(c, 0, 0, 40);
        addApart(c, 1, 100, 40);
        c.change(2, 0, true);
        add(c, 3, 200);
        return c;
    }

    /** Calls that are refused leave each of the four sets as it is in a twin that they were not made on. */
    static void leavesAll(String what, Supplier<CellUnion> build, Consumer<CellUnion> refused) {
        for (int s = 0; s < 4; s++) {
            CellUnion c = build.get();
            refused.accept(c);
            sameSet(what, s, c, build.get());
        }
    }

    private static void sameSet(String what, int s, CellUnion c, CellUnion twin) {
        Due.is(what + ", then cells(" + s + ")", c.cells(s), twin.cells(s));
        Due.is(what + ", then stretches(" + s + ")", c.stretches(s), twin.stretches(s));
        Due.is(what + ", then pieces(" + s + ")", c.pieces(s), twin.pieces(s));
        for (int n = 0; n < 256; n++) {
            Due.is(what + ", then cell " + n + " in " + s, has(c, s, n), has(twin, s, n));
        }
    }

    private static int[] curve() {
        int[] places = new int[256];
        for (int i = 0; i < 256; i++) {
            places[number(i / 16, i % 16)] = i;
        }
        return places;
    }
}

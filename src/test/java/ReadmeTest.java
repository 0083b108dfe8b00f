/** The calls of README.md's example, in its order: a reader copies them and trusts what stands beside. */
public final class ReadmeTest {
    public static void main(String[] args) {
        CellUnion c = new CellUnion();
        int square = 1024 * 2 + 32 * 1 + 3;
        Due.is("c.change(0, square, true)", c.change(0, square, true), 16);
        Due.is("c.change(1, 0, true)", c.change(1, 0, true), 256);
        Due.is("c.combine(2, 2, 1, 0)", c.combine(2, 2, 1, 0), 240);
        Due.is("c.has(2, 4, 12)", c.has(2, 4, 12), false);
        Due.is("c.cells(2)", c.cells(2), 240);
        Due.is("c.stretches(2)", c.stretches(2), 2);
        Due.is("c.pieces(2)", c.pieces(2), 6);
        Due.is("c.piece(2, 0)", c.piece(2, 0), 256);
        Due.is("c.piece(2, 6)", c.piece(2, 6), CellUnion.NONE);
        Due.is("c.number(5, 9)", c.number(5, 9), 120);
        Due.is("c.place(120)", c.place(120), 89);
        Due.is("c.nth(0, 0)", c.nth(0, 0), 76);
        Due.is("c.touched(0, 1)", c.touched(0, 1), 1);
        Due.is("c.change(4, square, true)", c.change(4, square, true), CellUnion.BAD);
        cellsOfTheSquare();
        Due.end();
    }

    private static void cellsOfTheSquare() {
        CellUnion c = new CellUnion();
        c.change(0, 1024 * 2 + 32 * 1 + 3, true);
        for (int i = 0; i < 256; i++) {
            int x = i / 16;
            int y = i % 16;
            boolean inside = x >= 4 && x <= 7 && y >= 12;
            Due.is("cells x 4..7, y 12..15: (" + x + ", " + y + ")", c.has(0, x, y), inside);
        }
    }
}

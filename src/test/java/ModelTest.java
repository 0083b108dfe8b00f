/** Long runs of mixed calls, always the same ones, each answer compared with the model's. */
public final class ModelTest {
    private static final int RUNS = 400;
    private static final int CALLS = 510;
    private static final int[] ODD = {-1, -2, 4, 5, 16, 17, 40, 255, 256, 257, 1023, 1024, 5120,
        Integer.MIN_VALUE, Integer.MAX_VALUE};

    private static long state = 12345;
    private static int fullAdds = 0;
    private static int fullTakes = 0;
    private static final int[] fullCombines = new int[3];

    private final CellUnion real = new CellUnion();
    private final Model model = new Model();
    // Only runs that change single cells of few sets come near the greatest number of stretches.
    private final boolean fine;
    private final int addsInTen;

    private ModelTest(int run) {
        fine = run % 2 == 1;
        addsInTen = run % 4 == 1 ? 9 : run % 4 == 3 ? 2 : 6;
    }

    public static void main(String[] args) {
        for (int run = 0; run < RUNS; run++) {
            ModelTest test = new ModelTest(run);
            test.begin("run " + run + " begin: ");
            for (int i = 0; i < CALLS; i++) {
                test.step("run " + run + " call " + i + ": ");
            }
        }
        System.out.println("too much: " + fullAdds + " additions, " + fullTakes + " takings out, "
            + fullCombines[0] + ", " + fullCombines[1] + " and " + fullCombines[2] + " combinations");
        Due.is("some addition was too much", fullAdds > 0, true);
        Due.is("some taking out was too much", fullTakes > 0, true);
        for (int how = 0; how < 3; how++) {
            Due.is("some combination " + how + " was too much", fullCombines[how] > 0, true);
        }
        Due.end();
    }

    private static int below(int bound) {
        state = state * 6364136223846793005L + 1442695040888963407L;
        return (int) ((state >>> 33) % bound);
    }

    /** A number from 0 to last, now and then one that may be outside. */
    private static int mostly(int last) {
        return below(40) == 0 ? ODD[below(ODD.length)] : below(last + 1);
    }

    private static int oddSquare() {
        return below(2) == 0 ? ODD[below(ODD.length)] : below(7000) - 500;
    }

    private int anySquare() {
        if (below(40) == 0) {
            return oddSquare();
        }
        int level = fine ? 4 : below(10) < 8 ? 3 + below(2) : below(5);
        int columns = 1 << level;
        return 1024 * level + 32 * below(columns) + below(columns);
    }

    /** Where cells are mostly taken out, the sets begin with all of them. */
    private void begin(String at) {
        for (int s = 0; s < 2; s++) {
            boolean in = addsInTen < 5;
            Due.is(at + "set " + s, real.change(s, 0, in), model.change(s, 0, in));
        }
    }

    private void step(String at) {
        int kind = below(17);
        if (kind < 7) {
            change(at);
        } else if (kind == 7) {
            combine(at);
        } else {
            ask(at, kind);
        }
    }

    private void change(String at) {
        int s = mostly(fine ? 1 : 3);
        int square = anySquare();
        boolean in = below(10) < addsInTen;
        int want = model.change(s, square, in);
        Due.is(at + "change(" + s + ", " + square + ", " + in + ")", real.change(s, square, in), want);
        if (want == -2) {
            fullAdds += in ? 1 : 0;
            fullTakes += in ? 0 : 1;
        }
    }

    private void combine(String at) {
        int d = fine ? 2 + below(2) : mostly(3);
        int how = mostly(2);
        int a = mostly(3);
        int b = mostly(3);
        int want = model.combine(d, how, a, b);
        String call = "combine(" + d + ", " + how + ", " + a + ", " + b + ")";
        Due.is(at + call, real.combine(d, how, a, b), want);
        if (want == -2) {
            fullCombines[how]++;
        }
    }

    private void ask(String at, int kind) {
        int s = mostly(3);
        int k = below(2) == 0 ? mostly(255) : below(50);
        int x = mostly(15);
        int y = mostly(15);
        int level = mostly(4);
        switch (kind) {
            case 8 -> Due.is(at + "has(" + s + ", " + x + ", " + y + ")", real.has(s, x, y), model.has(s, x, y));
            case 9 -> Due.is(at + "cells(" + s + ")", real.cells(s), model.cells(s));
            case 10 -> Due.is(at + "stretches(" + s + ")", real.stretches(s), model.stretches(s));
            case 11 -> Due.is(at + "pieces(" + s + ")", real.pieces(s), model.pieces(s));
            case 12 -> Due.is(at + "piece(" + s + ", " + k + ")", real.piece(s, k), model.piece(s, k));
            case 13 -> Due.is(at + "nth(" + s + ", " + k + ")", real.nth(s, k), model.nth(s, k));
            case 14 -> Due.is(at + "touched(" + s + ", " + level + ")", real.touched(s, level), model.touched(s, level));
            case 15 -> Due.is(at + "number(" + x + ", " + y + ")", real.number(x, y), model.number(x, y));
            default -> Due.is(at + "place(" + k + ")", real.place(k), model.place(k));
        }
    }
}

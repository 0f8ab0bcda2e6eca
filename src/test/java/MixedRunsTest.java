/** Promises 2 to 5 together: long runs of calls beside a model of the matrix. */
public final class MixedRunsTest {
    private static final int CALLS = 200000;

    public static void main(String[] args) {
        for (long seed : Checks.MATRICES) {
            Checks.sentence("a run from seed " + Checks.hex(seed), () -> run(seed));
        }
        Checks.finish();
    }

    private static void run(long seed) {
        BitMatrix8 x = new BitMatrix8();
        long model = 0L;
        long state = seed;
        for (int i = 0; i < CALLS / Checks.MATRICES.length; i++) {
            state = Checks.next(state);
            int choice = (int) (state >>> 60) & 3;
            int r = (int) ((state >>> 50) & 15) - 4;
            int b = (int) (state >>> 18);
            boolean valid = Checks.isRow(r);
            String where = "seed " + Checks.hex(seed) + ", call " + i + ": ";
            if (choice == 0) {
                model = Checks.transposed(model);
                Checks.due(where + "transpose()", x.transpose(), model);
            } else if (choice == 1) {
                model = Checks.flipped(model);
                Checks.due(where + "flipV()", x.flipV(), model);
            } else if (choice == 2) {
                int old = valid ? Checks.rowOf(model, r) : -1;
                Checks.due(where + "setRow(" + r + ", " + b + ")", x.setRow(r, b), old);
                model = valid ? Checks.replaced(model, r, b) : model;
            } else {
                Checks.due(where + "row(" + r + ")", x.row(r), valid ? Checks.rowOf(model, r) : -1);
            }
        }
    }
}

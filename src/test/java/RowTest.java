/** Promise 5: row reads one row. */
public final class RowTest {
    public static void main(String[] args) {
        for (int r = 0; r < 8; r++) {
            for (int b = 0; b < 256; b++) {
                BitMatrix8 x = new BitMatrix8();
                x.setRow(r, b);
                Checks.dueRows("setRow(" + r + ", " + b + ")", x, (long) b << (8 * r));
            }
        }
        for (long matrix : Checks.MATRICES) {
            changesNothing(matrix);
        }
        Checks.finish();
    }

    private static void changesNothing(long matrix) {
        BitMatrix8 x = Checks.holding(matrix);
        String on = " on " + Checks.hex(matrix);
        for (int r : Checks.NO_ROWS) {
            Checks.due("row(" + r + ")" + on, x.row(r), -1);
            Checks.dueRows("row(" + r + ")" + on, x, matrix);
        }
        Checks.dueRows("reading twice" + on, x, matrix);
        Checks.due("flipV() after reading" + on, x.flipV(), Checks.flipped(matrix));
    }
}

/** Promise 4: flipV reverses the order of the rows. */
public final class FlipVTest {
    public static void main(String[] args) {
        documentExamples();
        for (int bit = 0; bit < 64; bit++) {
            movesOneCell(bit / 8, bit % 8);
        }
        for (long matrix : Checks.MATRICES) {
            movesAllRows(matrix);
        }
        Checks.finish();
    }

    private static void documentExamples() {
        BitMatrix8 x = new BitMatrix8();
        x.setRow(0, 1);
        Checks.due("flipV() after setRow(0, 1)", x.flipV(), 0x0100000000000000L);
        Checks.due("then row(7)", x.row(7), 1);
        Checks.due("then row(0)", x.row(0), 0);
        x = new BitMatrix8();
        x.setRow(0, 128);
        Checks.due("flipV() after setRow(0, 128)", x.flipV(), 0x8000000000000000L);
        Checks.due("then row(7)", x.row(7), 128);
        Checks.due("flipV() on all one", Checks.holding(-1L).flipV(), -1L);
        Checks.due("flipV() on all zero", Checks.holding(0L).flipV(), 0L);
    }

    private static void movesOneCell(int r, int c) {
        String call = "flipV() with cell (" + r + "," + c + ")";
        BitMatrix8 alone = new BitMatrix8();
        alone.setRow(r, 1 << c);
        Checks.due(call + " alone 1", alone.flipV(), 1L << (8 * (7 - r) + c));
        Checks.dueRows(call + " alone 1", alone, 1L << (8 * (7 - r) + c));
        BitMatrix8 hole = Checks.holding(~(1L << (8 * r + c)));
        Checks.due(call + " alone 0", hole.flipV(), ~(1L << (8 * (7 - r) + c)));
    }

    private static void movesAllRows(long matrix) {
        String call = "flipV() on " + Checks.hex(matrix);
        long moved = Checks.flipped(matrix);
        BitMatrix8 x = Checks.holding(matrix);
        Checks.due(call, x.flipV(), moved);
        Checks.dueRows(call, x, moved);
        Checks.due(call + ", twice", x.flipV(), matrix);
        Checks.dueRows(call + ", twice", x, matrix);
        x.flipV();
        Checks.due(call + ", then setRow(2, 0)", x.setRow(2, 0), Checks.rowOf(moved, 2));
        Checks.due(call + ", then transpose()", x.transpose(), Checks.transposed(moved & ~0xff0000L));
    }
}

/** Promise 3: transpose swaps rows and columns. */
public final class TransposeTest {
    public static void main(String[] args) {
        documentExamples();
        for (int bit = 0; bit < 64; bit++) {
            movesOneCell(bit / 8, bit % 8);
        }
        for (long matrix : Checks.MATRICES) {
            movesAllCells(matrix);
        }
        Checks.finish();
    }

    private static void documentExamples() {
        BitMatrix8 x = new BitMatrix8();
        x.setRow(0, 255);
        Checks.due("transpose() after setRow(0, 255)", x.transpose(), 0x0101010101010101L);
        for (int r = 0; r < 8; r++) {
            Checks.due("then row(" + r + ")", x.row(r), 1);
        }
        x = new BitMatrix8();
        x.setRow(0, 128);
        Checks.due("transpose() after setRow(0, 128)", x.transpose(), 0x0100000000000000L);
        Checks.due("transpose() on all one", Checks.holding(-1L).transpose(), -1L);
        Checks.due("transpose() on all zero", Checks.holding(0L).transpose(), 0L);
    }

    private static void movesOneCell(int r, int c) {
        String call = "transpose() with cell (" + r + "," + c + ")";
        BitMatrix8 alone = new BitMatrix8();
        alone.setRow(r, 1 << c);
        Checks.due(call + " alone 1", alone.transpose(), 1L << (8 * c + r));
        Checks.dueRows(call + " alone 1", alone, 1L << (8 * c + r));
        BitMatrix8 hole = Checks.holding(~(1L << (8 * r + c)));
        Checks.due(call + " alone 0", hole.transpose(), ~(1L << (8 * c + r)));
    }

    private static void movesAllCells(long matrix) {
        String call = "transpose() on " + Checks.hex(matrix);
        long moved = Checks.transposed(matrix);
        BitMatrix8 x = Checks.holding(matrix);
        Checks.due(call, x.transpose(), moved);
        Checks.dueRows(call, x, moved);
        Checks.due(call + ", twice", x.transpose(), matrix);
        Checks.dueRows(call + ", twice", x, matrix);
        x.transpose();
        Checks.due(call + ", then setRow(2, 0)", x.setRow(2, 0), Checks.rowOf(moved, 2));
        Checks.due(call + ", then flipV()", x.flipV(), Checks.flipped(moved & ~0xff0000L));
    }
}

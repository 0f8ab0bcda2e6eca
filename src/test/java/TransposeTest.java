/** Promise 3: transpose swaps rows and columns. One test for each sentence. */
public final class TransposeTest {
    public static void main(String[] args) {
        Checks.sentence("3: bit 8r+c goes to bit 8c+r, for all r and c", TransposeTest::movesEachCell);
        Checks.sentence("3: all cells move together", TransposeTest::movesAllCells);
        Checks.sentence("3: the matrix itself changes, later calls work on it", TransposeTest::laterCallsSeeIt);
        Checks.sentence("3: if the new cell (7,7) is 1, the answer is negative", TransposeTest::negativeWithCorner);
        Checks.sentence("3: if the new cell (7,7) is 0, it is not", TransposeTest::notNegativeWithoutCorner);
        Checks.sentence("3: the cells (r,r) keep their values", TransposeTest::diagonalStays);
        Checks.sentence("3: twice in a row brings back the matrix", TransposeTest::twiceBringsBack);
        Checks.sentence("3: it works in the same way for every matrix", TransposeTest::worksForMany);
        Checks.sentence("3: all zero stays, the answer is 0L", () -> stays(0L));
        Checks.sentence("3: all one stays, the answer is -1L", () -> stays(-1L));
        Checks.sentence("3: after setRow(0, 255), every row is 1", TransposeTest::fullRowExample);
        Checks.sentence("3: after setRow(0, 128), (0,7) has moved to (7,0)", TransposeTest::cornerExample);
        Checks.finish();
    }

    private static void movesEachCell() {
        for (int bit = 0; bit < 64; bit++) {
            long from = 1L << bit;
            long to = 1L << (8 * (bit % 8) + bit / 8);
            Checks.due(on(from), Checks.holding(from).transpose(), to);
            Checks.due(on(~from), Checks.holding(~from).transpose(), ~to);
        }
    }

    private static void movesAllCells() {
        for (long matrix : Checks.MATRICES) {
            Checks.due(on(matrix), Checks.holding(matrix).transpose(), Checks.transposed(matrix));
        }
    }

    private static void laterCallsSeeIt() {
        for (long matrix : Checks.MATRICES) {
            long moved = Checks.transposed(matrix);
            BitMatrix8 x = Checks.holding(matrix);
            x.transpose();
            Checks.dueRows(on(matrix), x, moved);
            Checks.due(on(matrix) + ", then setRow(2, 0)", x.setRow(2, 0), Checks.rowOf(moved, 2));
            long rest = Checks.replaced(moved, 2, 0);
            Checks.due(on(matrix) + ", then flipV()", x.flipV(), Checks.flipped(rest));
        }
    }

    private static void negativeWithCorner() {
        for (long matrix : Checks.MATRICES) {
            long answer = Checks.holding(matrix | Long.MIN_VALUE).transpose();
            Checks.due(on(matrix | Long.MIN_VALUE) + " is negative (1 for yes)", answer < 0 ? 1 : 0, 1);
        }
    }

    private static void notNegativeWithoutCorner() {
        for (long matrix : Checks.MATRICES) {
            long answer = Checks.holding(matrix & Long.MAX_VALUE).transpose();
            Checks.due(on(matrix & Long.MAX_VALUE) + " is negative (1 for yes)", answer < 0 ? 1 : 0, 0);
        }
    }

    private static void diagonalStays() {
        for (long matrix : Checks.MATRICES) {
            BitMatrix8 x = Checks.holding(matrix);
            x.transpose();
            for (int r = 0; r < 8; r++) {
                int cell = (Checks.rowOf(matrix, r) >> r) & 1;
                Checks.due(on(matrix) + ", then cell (" + r + "," + r + ")", (x.row(r) >> r) & 1, cell);
            }
        }
    }

    private static void twiceBringsBack() {
        for (long matrix : Checks.MATRICES) {
            BitMatrix8 x = Checks.holding(matrix);
            x.transpose();
            Checks.due(on(matrix) + ", twice", x.transpose(), matrix);
            Checks.dueRows(on(matrix) + ", twice", x, matrix);
        }
    }

    private static void worksForMany() {
        Checks.forManyMatrices(matrix -> {
            BitMatrix8 x = Checks.holding(matrix);
            Checks.due(on(matrix), x.transpose(), Checks.transposed(matrix));
            Checks.due(on(matrix) + ", twice", x.transpose(), matrix);
        });
    }

    private static void stays(long matrix) {
        BitMatrix8 x = Checks.holding(matrix);
        Checks.due(on(matrix), x.transpose(), matrix);
        Checks.dueRows(on(matrix), x, matrix);
    }

    private static void fullRowExample() {
        BitMatrix8 x = new BitMatrix8();
        x.setRow(0, 255);
        Checks.due("transpose() after setRow(0, 255)", x.transpose(), 0x0101010101010101L);
        for (int r = 0; r < 8; r++) {
            Checks.due("then row(" + r + ")", x.row(r), 1);
        }
    }

    private static void cornerExample() {
        BitMatrix8 x = new BitMatrix8();
        x.setRow(0, 128);
        Checks.due("transpose() after setRow(0, 128)", x.transpose(), 0x0100000000000000L);
        Checks.due("then row(7)", x.row(7), 1);
        Checks.due("then row(0)", x.row(0), 0);
    }

    private static String on(long matrix) {
        return "transpose() on " + Checks.hex(matrix);
    }
}

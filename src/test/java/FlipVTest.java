/** Promise 4: flipV reverses the order of the rows. One test for each sentence. */
public final class FlipVTest {
    public static void main(String[] args) {
        Checks.sentence("4: row r goes to row 7-r, for every r", FlipVTest::movesEachRow);
        Checks.sentence("4: the order of the bits within a row stays", FlipVTest::movesEachCell);
        Checks.sentence("4: all rows move together", FlipVTest::movesAllRows);
        Checks.sentence("4: the matrix itself changes, later calls work on it", FlipVTest::laterCallsSeeIt);
        Checks.sentence("4: if the new cell (7,7) is 1, the answer is negative", FlipVTest::negativeWithCorner);
        Checks.sentence("4: if the new cell (7,7) is 0, it is not", FlipVTest::notNegativeWithoutCorner);
        Checks.sentence("4: twice in a row brings back the matrix", FlipVTest::twiceBringsBack);
        Checks.sentence("4: it works in the same way for every matrix", FlipVTest::worksForMany);
        Checks.sentence("4: all zero stays, the answer is 0L", () -> stays(0L));
        Checks.sentence("4: all one stays, the answer is -1L", () -> stays(-1L));
        Checks.sentence("4: after setRow(0, 1), row 7 is 1 and row 0 is 0", FlipVTest::firstRowExample);
        Checks.sentence("4: after setRow(0, 128), the answer is negative", FlipVTest::signBitExample);
        Checks.finish();
    }

    private static void movesEachRow() {
        for (int r = 0; r < 8; r++) {
            for (int b = 0; b < 256; b++) {
                long from = (long) b << (8 * r);
                BitMatrix8 x = Checks.holding(from);
                x.flipV();
                Checks.dueRows(on(from), x, (long) b << (8 * (7 - r)));
            }
        }
    }

    private static void movesEachCell() {
        for (int bit = 0; bit < 64; bit++) {
            long from = 1L << bit;
            long to = 1L << (8 * (7 - bit / 8) + bit % 8);
            Checks.due(on(from), Checks.holding(from).flipV(), to);
            Checks.due(on(~from), Checks.holding(~from).flipV(), ~to);
        }
    }

    private static void movesAllRows() {
        for (long matrix : Checks.MATRICES) {
            Checks.due(on(matrix), Checks.holding(matrix).flipV(), Checks.flipped(matrix));
        }
    }

    private static void laterCallsSeeIt() {
        for (long matrix : Checks.MATRICES) {
            long moved = Checks.flipped(matrix);
            BitMatrix8 x = Checks.holding(matrix);
            x.flipV();
            Checks.dueRows(on(matrix), x, moved);
            Checks.due(on(matrix) + ", then setRow(2, 0)", x.setRow(2, 0), Checks.rowOf(moved, 2));
            long rest = Checks.replaced(moved, 2, 0);
            Checks.due(on(matrix) + ", then transpose()", x.transpose(), Checks.transposed(rest));
        }
    }

    // The new cell (7,7) is the old cell (0,7), which is bit 7.
    private static void negativeWithCorner() {
        for (long matrix : Checks.MATRICES) {
            long answer = Checks.holding(matrix | 0x80L).flipV();
            Checks.due(on(matrix | 0x80L) + " is negative (1 for yes)", answer < 0 ? 1 : 0, 1);
        }
    }

    private static void notNegativeWithoutCorner() {
        for (long matrix : Checks.MATRICES) {
            long answer = Checks.holding(matrix & ~0x80L).flipV();
            Checks.due(on(matrix & ~0x80L) + " is negative (1 for yes)", answer < 0 ? 1 : 0, 0);
        }
    }

    private static void twiceBringsBack() {
        for (long matrix : Checks.MATRICES) {
            BitMatrix8 x = Checks.holding(matrix);
            x.flipV();
            Checks.due(on(matrix) + ", twice", x.flipV(), matrix);
            Checks.dueRows(on(matrix) + ", twice", x, matrix);
        }
    }

    private static void worksForMany() {
        Checks.forManyMatrices(matrix -> {
            BitMatrix8 x = Checks.holding(matrix);
            Checks.due(on(matrix), x.flipV(), Checks.flipped(matrix));
            Checks.due(on(matrix) + ", twice", x.flipV(), matrix);
        });
    }

    private static void stays(long matrix) {
        BitMatrix8 x = Checks.holding(matrix);
        Checks.due(on(matrix), x.flipV(), matrix);
        Checks.dueRows(on(matrix), x, matrix);
    }

    private static void firstRowExample() {
        BitMatrix8 x = new BitMatrix8();
        x.setRow(0, 1);
        Checks.due("flipV() after setRow(0, 1)", x.flipV(), 0x0100000000000000L);
        Checks.due("then row(7)", x.row(7), 1);
        Checks.due("then row(0)", x.row(0), 0);
    }

    private static void signBitExample() {
        BitMatrix8 x = new BitMatrix8();
        x.setRow(0, 128);
        Checks.due("flipV() after setRow(0, 128)", x.flipV(), 0x8000000000000000L);
        Checks.due("then row(7)", x.row(7), 128);
    }

    private static String on(long matrix) {
        return "flipV() on " + Checks.hex(matrix);
    }
}

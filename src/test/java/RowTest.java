/** Promise 5: row reads one row. One test for each sentence. */
public final class RowTest {
    public static void main(String[] args) {
        Checks.sentence("5: if r is below 0, it answers -1", () -> refuses(Checks.BELOW_ROWS));
        Checks.sentence("5: if r is above 7, it answers -1", () -> refuses(Checks.ABOVE_ROWS));
        Checks.sentence("5: this holds for the smallest int", () -> refusesOne(Integer.MIN_VALUE));
        Checks.sentence("5: this holds for the largest int", () -> refusesOne(Integer.MAX_VALUE));
        Checks.sentence("5: this holds for every such int", RowTest::refusesEveryOther);
        Checks.sentence("5: row 0, the first, is read", () -> reads(0));
        Checks.sentence("5: row 7, the last, is read", () -> reads(7));
        Checks.sentence("5: rows 1 to 6 are read", RowTest::readsInnerRows);
        Checks.sentence("5: it answers the row as it now stands", RowTest::readsTheRowOfNow);
        Checks.sentence("5: bit c of the answer is cell (r,c)", RowTest::eachBitIsACell);
        Checks.sentence("5: all higher bits are 0", RowTest::higherBitsAreZero);
        Checks.sentence("5: the answer is never negative, in row 7 as in any other", RowTest::neverNegative);
        Checks.sentence("5: it changes nothing when r is valid", RowTest::readingChangesNothing);
        Checks.sentence("5: it changes nothing when r is refused", RowTest::refusedChangesNothing);
        Checks.finish();
    }

    private static void refuses(int[] rows) {
        for (int r : rows) {
            refusesOne(r);
        }
    }

    private static void refusesOne(int r) {
        for (long matrix : Checks.MATRICES) {
            Checks.due("row(" + r + ")" + on(matrix), Checks.holding(matrix).row(r), -1);
        }
    }

    private static void refusesEveryOther() {
        Checks.holdsForEveryInt("row(r) answers -1", () -> {
            BitMatrix8 x = Checks.holding(0x9e3779b97f4a7c15L);
            return r -> Checks.isRow(r) || x.row(r) == -1;
        });
    }

    private static void reads(int r) {
        for (int b = 0; b < 256; b++) {
            long matrix = (long) b << (8 * r);
            Checks.due("row(" + r + ")" + on(matrix), Checks.holding(matrix).row(r), b);
            long others = Checks.replaced(-1L, r, b);
            Checks.due("row(" + r + ")" + on(others), Checks.holding(others).row(r), b);
        }
    }

    private static void readsInnerRows() {
        for (int r = 1; r < 7; r++) {
            reads(r);
        }
    }

    private static void readsTheRowOfNow() {
        for (long matrix : Checks.MATRICES) {
            BitMatrix8 x = Checks.holding(matrix);
            Checks.dueRows("all rows set" + on(matrix), x, matrix);
            x.transpose();
            Checks.dueRows("transpose()" + on(matrix), x, Checks.transposed(matrix));
            x.flipV();
            long now = Checks.flipped(Checks.transposed(matrix));
            Checks.dueRows("transpose(), flipV()" + on(matrix), x, now);
            x.setRow(7, 129);
            Checks.dueRows("transpose(), flipV(), setRow(7, 129)" + on(matrix), x, Checks.replaced(now, 7, 129));
        }
    }

    private static void eachBitIsACell() {
        for (long matrix : Checks.MATRICES) {
            BitMatrix8 x = Checks.holding(matrix);
            boolean[][] cells = Checks.cellsOf(matrix);
            for (int bit = 0; bit < 64; bit++) {
                int cell = cells[bit / 8][bit % 8] ? 1 : 0;
                int read = (x.row(bit / 8) >> (bit % 8)) & 1;
                Checks.due("cell (" + bit / 8 + "," + bit % 8 + ")" + on(matrix), read, cell);
            }
        }
    }

    private static void higherBitsAreZero() {
        for (long matrix : Checks.MATRICES) {
            BitMatrix8 x = Checks.holding(matrix);
            for (int r = 0; r < 8; r++) {
                Checks.due("higher bits of row(" + r + ")" + on(matrix), x.row(r) & ~255, 0);
            }
        }
    }

    private static void neverNegative() {
        for (int r = 0; r < 8; r++) {
            for (int b = 0; b < 256; b++) {
                BitMatrix8 x = Checks.holding(-1L);
                x.setRow(r, b);
                Checks.due("row(" + r + ") of " + b + " is below 0 (1 for yes)", x.row(r) < 0 ? 1 : 0, 0);
            }
        }
    }

    private static void readingChangesNothing() {
        for (long matrix : Checks.MATRICES) {
            for (int r = 0; r < 8; r++) {
                BitMatrix8 x = Checks.holding(matrix);
                x.row(r);
                dueUnchanged("row(" + r + ")" + on(matrix), x, matrix);
            }
        }
    }

    private static void refusedChangesNothing() {
        for (long matrix : Checks.MATRICES) {
            for (int r : Checks.NO_ROWS) {
                BitMatrix8 x = Checks.holding(matrix);
                x.row(r);
                dueUnchanged("row(" + r + ")" + on(matrix), x, matrix);
            }
        }
    }

    // By flipV first: if row itself did the change, another row call could undo it.
    private static void dueUnchanged(String what, BitMatrix8 x, long matrix) {
        Checks.due(what + ", then flipV()", x.flipV(), Checks.flipped(matrix));
        Checks.due(what + ", then flipV() again", x.flipV(), matrix);
        Checks.dueRows(what, x, matrix);
    }

    private static String on(long matrix) {
        return " on " + Checks.hex(matrix);
    }
}

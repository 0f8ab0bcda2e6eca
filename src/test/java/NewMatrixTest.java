/** Promise 1: a new matrix is all zero. One test for each sentence. */
public final class NewMatrixTest {
    public static void main(String[] args) {
        Checks.sentence("1: all 64 cells are 0, so the long is 0L", NewMatrixTest::allCellsAreZero);
        Checks.sentence("1: right after construction row(r) answers 0 for every r", NewMatrixTest::firstRowRead);
        Checks.sentence("1: right after construction transpose() answers 0L", NewMatrixTest::firstTranspose);
        Checks.sentence("1: right after construction flipV() answers 0L", NewMatrixTest::firstFlipV);
        Checks.sentence("1: right after construction setRow answers 0 for every r", NewMatrixTest::firstSetRow);
        Checks.sentence("1: the constructor never throws", NewMatrixTest::neverThrows);
        Checks.sentence("1: a new matrix is all zero beside other ones", NewMatrixTest::othersStayApart);
        Checks.finish();
    }

    private static void allCellsAreZero() {
        BitMatrix8 x = new BitMatrix8();
        for (int bit = 0; bit < 64; bit++) {
            Checks.due("cell (" + bit / 8 + "," + bit % 8 + ")", (x.row(bit / 8) >> (bit % 8)) & 1, 0);
        }
        Checks.due("the long, flipped", x.flipV(), 0L);
        Checks.due("the long, flipped back", x.flipV(), 0L);
    }

    private static void firstRowRead() {
        for (int r = 0; r < 8; r++) {
            Checks.due("row(" + r + ") as first call", new BitMatrix8().row(r), 0);
        }
    }

    private static void firstTranspose() {
        Checks.due("transpose() as first call", new BitMatrix8().transpose(), 0L);
    }

    private static void firstFlipV() {
        Checks.due("flipV() as first call", new BitMatrix8().flipV(), 0L);
    }

    private static void firstSetRow() {
        for (int r = 0; r < 8; r++) {
            Checks.due("setRow(" + r + ", 255) as first call", new BitMatrix8().setRow(r, 255), 0);
        }
    }

    // Many times, since a count kept across objects could run out.
    private static void neverThrows() {
        for (int i = 0; i < 100000; i++) {
            new BitMatrix8();
        }
    }

    private static void othersStayApart() {
        BitMatrix8 early = new BitMatrix8();
        BitMatrix8 full = Checks.holding(-1L);
        Checks.dueRows("early matrix beside a full one", early, 0L);
        Checks.dueRows("new matrix after a full one", new BitMatrix8(), 0L);
        Checks.dueRows("full matrix beside new ones", full, -1L);
    }
}

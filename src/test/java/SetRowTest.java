/** Promise 2: setRow replaces one row and answers the old one. One test for each sentence. */
public final class SetRowTest {
    public static void main(String[] args) {
        Checks.sentence("2: if r is below 0, it answers -1", () -> refuses(Checks.BELOW_ROWS));
        Checks.sentence("2: if r is above 7, it answers -1", () -> refuses(Checks.ABOVE_ROWS));
        Checks.sentence("2: a refused call changes nothing, whatever b is", SetRowTest::refusedChangesNothing);
        Checks.sentence("2: this holds for the smallest int", () -> refusesOne(Integer.MIN_VALUE));
        Checks.sentence("2: this holds for the largest int", () -> refusesOne(Integer.MAX_VALUE));
        Checks.sentence("2: this holds for every such int", SetRowTest::refusesEveryOther);
        Checks.sentence("2: row 0, the first, is replaced", () -> replacesRow(0));
        Checks.sentence("2: row 7, the last, is replaced", () -> replacesRow(7));
        Checks.sentence("2: rows 1 to 6 are replaced", SetRowTest::replacesInnerRows);
        Checks.sentence("2: it answers the row that stood there before the call", SetRowTest::answersTheOldRow);
        Checks.sentence("2: b = -1 stores 255", () -> stores(-1, 255));
        Checks.sentence("2: b = 256 stores 0", () -> stores(256, 0));
        Checks.sentence("2: b = 511 stores 255", () -> stores(511, 255));
        Checks.sentence("2: b = -128 stores 128", () -> stores(-128, 128));
        Checks.sentence("2: the smallest int stores 0", () -> stores(Integer.MIN_VALUE, 0));
        Checks.sentence("2: the largest int stores 255", () -> stores(Integer.MAX_VALUE, 255));
        Checks.sentence("2: every int value of b is accepted", SetRowTest::acceptsEveryValue);
        Checks.sentence("2: the new row replaces a full one wholly", () -> replacesWholly(255));
        Checks.sentence("2: the new row replaces an empty one wholly", () -> replacesWholly(0));
        Checks.sentence("2: the other seven rows do not change", SetRowTest::otherRowsStay);
        Checks.sentence("2: the answer for a valid r is never negative", SetRowTest::neverNegative);
        Checks.sentence("2: if row 7 held 255, setRow(7, 0) answers 255", SetRowTest::fullLastRow);
        Checks.sentence("2: storing the value already there answers it, changes nothing", SetRowTest::storesTheSame);
        Checks.finish();
    }

    private static void refuses(int[] rows) {
        for (int r : rows) {
            refusesOne(r);
        }
    }

    private static void refusesOne(int r) {
        for (long matrix : Checks.MATRICES) {
            BitMatrix8 x = Checks.holding(matrix);
            for (int b : Checks.WIDE_VALUES) {
                Checks.due(call(r, b) + on(matrix), x.setRow(r, b), -1);
            }
        }
    }

    private static void refusedChangesNothing() {
        for (long matrix : Checks.MATRICES) {
            BitMatrix8 x = Checks.holding(matrix);
            for (int r : Checks.NO_ROWS) {
                for (int b : Checks.WIDE_VALUES) {
                    x.setRow(r, b);
                    Checks.dueRows(call(r, b) + on(matrix), x, matrix);
                }
            }
            Checks.due("flipV() after refused calls" + on(matrix), x.flipV(), Checks.flipped(matrix));
        }
    }

    // Each call is followed by a look at one row, in turn, so that a change would show in one of the next eight.
    private static void refusesEveryOther() {
        long matrix = 0x9e3779b97f4a7c15L;
        Checks.holdsForEveryInt("setRow(r, ~r) answers -1 and changes nothing", () -> {
            BitMatrix8 x = Checks.holding(matrix);
            return r -> Checks.isRow(r)
                || x.setRow(r, ~r) == -1 && x.row(r & 7) == Checks.rowOf(matrix, r & 7);
        });
    }

    private static void replacesRow(int r) {
        for (long matrix : Checks.MATRICES) {
            for (int b : Checks.WIDE_VALUES) {
                BitMatrix8 x = Checks.holding(matrix);
                Checks.due(call(r, b) + on(matrix), x.setRow(r, b), Checks.rowOf(matrix, r));
                Checks.dueRows(call(r, b) + on(matrix), x, Checks.replaced(matrix, r, b));
            }
        }
    }

    private static void replacesInnerRows() {
        for (int r = 1; r < 7; r++) {
            replacesRow(r);
        }
    }

    private static void answersTheOldRow() {
        for (int r = 0; r < 8; r++) {
            BitMatrix8 x = new BitMatrix8();
            int old = 0;
            for (int b = 255; b >= 0; b--) {
                Checks.due(call(r, b) + " over " + old, x.setRow(r, b), old);
                old = b;
            }
        }
    }

    private static void stores(int b, int want) {
        for (int r = 0; r < 8; r++) {
            BitMatrix8 x = new BitMatrix8();
            x.setRow(r, 85);
            x.setRow(r, b);
            Checks.due(call(r, b) + ", then row(" + r + ")", x.row(r), want);
            Checks.due(call(r, b) + ", then setRow(" + r + ", 0)", x.setRow(r, 0), want);
        }
    }

    private static void acceptsEveryValue() {
        Checks.holdsForEveryInt("setRow(7, b) stores b & 255 and leaves row 6", () -> {
            BitMatrix8 x = new BitMatrix8();
            x.setRow(6, 165);
            return b -> x.setRow(7, b) >= 0 && x.row(7) == (b & 255) && x.row(6) == 165;
        });
    }

    private static void replacesWholly(int old) {
        for (int r = 0; r < 8; r++) {
            for (int b = 0; b < 256; b++) {
                BitMatrix8 x = new BitMatrix8();
                x.setRow(r, old);
                x.setRow(r, b);
                for (int c = 0; c < 8; c++) {
                    Checks.due(call(r, b) + " over " + old + ", cell " + c, (x.row(r) >> c) & 1, (b >> c) & 1);
                }
            }
        }
    }

    private static void otherRowsStay() {
        for (long matrix : Checks.MATRICES) {
            for (int r = 0; r < 8; r++) {
                BitMatrix8 x = Checks.holding(matrix);
                for (int b : Checks.WIDE_VALUES) {
                    x.setRow(r, b);
                    dueOtherRows(call(r, b) + on(matrix), x, matrix, r);
                }
            }
        }
    }

    private static void dueOtherRows(String what, BitMatrix8 x, long matrix, int r) {
        for (int other = 0; other < 8; other++) {
            if (other != r) {
                Checks.due(what + ", then row(" + other + ")", x.row(other), Checks.rowOf(matrix, other));
            }
        }
    }

    private static void neverNegative() {
        for (int r = 0; r < 8; r++) {
            for (int old = 0; old < 256; old++) {
                BitMatrix8 x = Checks.holding(-1L);
                x.setRow(r, old);
                int answer = x.setRow(r, -1);
                Checks.due(call(r, -1) + " over " + old + " is below 0 (1 for yes)", answer < 0 ? 1 : 0, 0);
            }
        }
    }

    private static void fullLastRow() {
        BitMatrix8 alone = new BitMatrix8();
        alone.setRow(7, 255);
        Checks.due("setRow(7, 0) over 255", alone.setRow(7, 0), 255);
        Checks.due("setRow(7, 0) on all one", Checks.holding(-1L).setRow(7, 0), 255);
    }

    private static void storesTheSame() {
        for (long matrix : Checks.MATRICES) {
            BitMatrix8 x = Checks.holding(matrix);
            for (int r = 0; r < 8; r++) {
                int same = Checks.rowOf(matrix, r);
                Checks.due(call(r, same) + on(matrix), x.setRow(r, same), same);
                Checks.dueRows(call(r, same) + on(matrix), x, matrix);
            }
        }
    }

    private static String call(int r, int b) {
        return "setRow(" + r + ", " + b + ")";
    }

    private static String on(long matrix) {
        return " on " + Checks.hex(matrix);
    }
}

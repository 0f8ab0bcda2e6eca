/** 'What it is': the layout of the long, and that every call answers. */
public final class WhatItIsTest {
    public static void main(String[] args) {
        Checks.sentence("cell (r,c) is bit 8r+c of the long", WhatItIsTest::eachCellIsItsBit);
        Checks.sentence("bit 0 is the least significant bit, cell (0,0)", () -> onlyCell(0, 0, 1L));
        Checks.sentence("bit 63 is the sign bit, cell (7,7)", () -> onlyCell(7, 7, Long.MIN_VALUE));
        Checks.sentence("no call throws, and every call returns", WhatItIsTest::everyCallAnswers);
        Checks.finish();
    }

    // Twice flipped is as it was, so the second answer is the matrix itself.
    private static void onlyCell(int r, int c, long want) {
        BitMatrix8 x = new BitMatrix8();
        x.setRow(r, 1 << c);
        x.flipV();
        Checks.due("the long with cell (" + r + "," + c + ") alone 1", x.flipV(), want);
    }

    private static void eachCellIsItsBit() {
        for (int bit = 0; bit < 64; bit++) {
            onlyCell(bit / 8, bit % 8, 1L << bit);
        }
    }

    // That a call throws is seen by the sentence; that it does not return, by .ci/run, which ends the test.
    private static void everyCallAnswers() {
        for (long matrix : Checks.MATRICES) {
            for (int r : Checks.ANY_ROWS) {
                for (int b : Checks.WIDE_VALUES) {
                    callEach(Checks.holding(matrix), r, b);
                }
            }
        }
    }

    private static void callEach(BitMatrix8 x, int r, int b) {
        x.row(r);
        x.transpose();
        x.flipV();
        x.setRow(r, b);
        x.flipV();
        x.transpose();
        x.row(r);
    }
}

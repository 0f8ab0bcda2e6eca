/** Promise 2: setRow replaces one row and answers the old one. */
public final class SetRowTest {
    private static final int[] VALUES = {
        0, 1, 2, 127, 128, 170, 254, 255, 256, 257, 511, 512, 65535, 65536, 1 << 30,
        -1, -2, -127, -128, -129, -255, -256, -257, Integer.MIN_VALUE, Integer.MIN_VALUE + 128, Integer.MAX_VALUE
    };

    public static void main(String[] args) {
        documentExamples();
        everyByteInEveryRow();
        for (long matrix : Checks.MATRICES) {
            replacesOneRow(matrix);
            refusesNoRows(matrix);
        }
        Checks.finish();
    }

    private static void documentExamples() {
        int[][] stored = {{-1, 255}, {256, 0}, {511, 255}, {-128, 128}};
        for (int[] pair : stored) {
            for (int r = 0; r < 8; r++) {
                BitMatrix8 x = new BitMatrix8();
                x.setRow(r, pair[0]);
                Checks.due("setRow(" + r + ", " + pair[0] + "), then row(" + r + ")", x.row(r), pair[1]);
            }
        }
        BitMatrix8 x = new BitMatrix8();
        x.setRow(7, 255);
        Checks.due("setRow(7, 0) over 255", x.setRow(7, 0), 255);
    }

    private static void everyByteInEveryRow() {
        for (int r = 0; r < 8; r++) {
            BitMatrix8 x = new BitMatrix8();
            int old = 0;
            for (int b = 0; b < 256; b++) {
                Checks.due("setRow(" + r + ", " + b + ")", x.setRow(r, b), old);
                Checks.due("setRow(" + r + ", " + b + ") again", x.setRow(r, b), b);
                Checks.due("row(" + r + ")", x.row(r), b);
                old = b;
            }
        }
    }

    private static void replacesOneRow(long matrix) {
        for (int r = 0; r < 8; r++) {
            for (int b : VALUES) {
                BitMatrix8 x = Checks.holding(matrix);
                boolean[][] cells = Checks.cellsOf(matrix);
                for (int c = 0; c < 8; c++) {
                    cells[r][c] = (b & (1 << c)) != 0;
                }
                String call = "setRow(" + r + ", " + b + ") on " + Checks.hex(matrix);
                Checks.due(call, x.setRow(r, b), Checks.rowOf(matrix, r));
                Checks.dueRows(call, x, Checks.matrixOf(cells));
            }
        }
    }

    private static void refusesNoRows(long matrix) {
        BitMatrix8 x = Checks.holding(matrix);
        for (int r : Checks.NO_ROWS) {
            for (int b : VALUES) {
                String call = "setRow(" + r + ", " + b + ") on " + Checks.hex(matrix);
                Checks.due(call, x.setRow(r, b), -1);
                Checks.dueRows(call, x, matrix);
            }
        }
        Checks.due("flipV() after refused rows", x.flipV(), Checks.flipped(matrix));
    }
}

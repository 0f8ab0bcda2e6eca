public final class BitMatrix8 {
    private static final int SIZE = 8;
    private static final int NO_SUCH_ROW = -1;
    private static final long ROW_MASK = 255L;

    private long cells;

    public BitMatrix8() {
        cells = 0L;
    }

    public int setRow(int r, int b) {
        if (!isRow(r)) {
            return NO_SUCH_ROW;
        }
        int old = readRow(r);
        int shift = SIZE * r;
        cells = (cells & ~(ROW_MASK << shift)) | ((b & ROW_MASK) << shift);
        return old;
    }

    public long transpose() {
        // Built apart from cells, since every cell must move from the matrix as it stood.
        long moved = 0L;
        for (int r = 0; r < SIZE; r++) {
            for (int c = 0; c < SIZE; c++) {
                long bit = (cells >>> (SIZE * r + c)) & 1L;
                moved |= bit << (SIZE * c + r);
            }
        }
        cells = moved;
        return moved;
    }

    public long flipV() {
        long moved = 0L;
        for (int r = 0; r < SIZE; r++) {
            long row = (cells >>> (SIZE * r)) & ROW_MASK;
            moved |= row << (SIZE * (SIZE - 1 - r));
        }
        cells = moved;
        return moved;
    }

    public int row(int r) {
        if (!isRow(r)) {
            return NO_SUCH_ROW;
        }
        return readRow(r);
    }

    private static boolean isRow(int r) {
        return r >= 0 && r < SIZE;
    }

    // The mask is laid on before the cast, so that row 7 doesn't bring the sign along.
    private int readRow(int r) {
        return (int) ((cells >>> (SIZE * r)) & ROW_MASK);
    }
}

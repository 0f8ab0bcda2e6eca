import java.util.function.IntPredicate;
import java.util.function.LongConsumer;
import java.util.function.Supplier;
import java.util.stream.IntStream;

/** Counts the answers that are not as due; a test ends with finish(). */
final class Checks {
    // Some come out as 0 to 7 when they are cut to a byte, or wrap around when they are multiplied by 8.
    static final int[] BELOW_ROWS = {
        -1, -2, -7, -8, -9, -64, -249, -256, -65536, -(1 << 29), 3 - (1 << 29),
        Integer.MIN_VALUE + 7, Integer.MIN_VALUE + 1, Integer.MIN_VALUE
    };
    static final int[] ABOVE_ROWS = {
        8, 9, 15, 16, 63, 64, 255, 256, 263, 65536, 1 << 29, (1 << 29) + 3,
        Integer.MAX_VALUE - 7, Integer.MAX_VALUE - 1, Integer.MAX_VALUE
    };
    static final int[] NO_ROWS = IntStream.concat(IntStream.of(BELOW_ROWS), IntStream.of(ABOVE_ROWS)).toArray();

    static final int[] ANY_ROWS = IntStream.concat(IntStream.range(0, 8), IntStream.of(NO_ROWS)).toArray();

    static final int[] WIDE_VALUES = {
        0, 1, 2, 127, 128, 170, 254, 255, 256, 257, 511, 512, 65535, 65536, 1 << 30,
        -1, -2, -127, -128, -129, -255, -256, -257, Integer.MIN_VALUE, Integer.MIN_VALUE + 128, Integer.MAX_VALUE
    };

    // Corners, lone rows and columns, diagonals, and matrices without any symmetry.
    static final long[] MATRICES = {
        0L, -1L, 1L, 0x80L, 0x0100000000000000L, 0x8000000000000000L, 0x7fffffffffffffffL,
        0xffL, 0xff00000000000000L, 0x0101010101010101L, 0x8080808080808080L,
        0x8040201008040201L, 0x0102040810204080L, 0x00000000ffffffffL, 0xffffffff00000000L,
        0xaaaaaaaaaaaaaaaaL, 0x5555555555555555L, 0xaa55aa55aa55aa55L,
        0x0123456789abcdefL, 0xfedcba9876543210L, 0x9e3779b97f4a7c15L, 0xc2b2ae3d27d4eb4fL
    };

    private static final int PARTS = 16;
    private static final int PART_SIZE = 1 << 28;
    private static final long NONE = Long.MIN_VALUE;
    private static final int CHOSEN_MATRICES = 100000;

    private static int wrong = 0;

    private Checks() {
    }

    /** Runs the test of one sentence; a call that throws is a wrong answer, and the other sentences still run. */
    static void sentence(String says, Runnable test) {
        int before = wrong;
        // Said first, so that a call that never returns is seen to hang under its sentence.
        System.out.print(says + ": ");
        try {
            test.run();
        } catch (RuntimeException | Error thrown) {
            tellWrong("a call threw " + thrown);
        }
        System.out.println(wrong == before ? "holds" : "\n  BROKEN");
    }

    static void due(String what, long got, long want) {
        if (got != want) {
            tellWrong(what + " answered " + got + ", due is " + want);
        }
    }

    private static void tellWrong(String what) {
        wrong++;
        System.out.print("\n  " + what);
    }

    /** Asks for every int, in parts side by side; each makes its own predicate, so that no two share an object. */
    static void holdsForEveryInt(String what, Supplier<IntPredicate> made) {
        long[] firstWrong = IntStream.range(0, PARTS).parallel()
            .mapToLong(part -> firstWrong(part * PART_SIZE, made.get())).toArray();
        for (long first : firstWrong) {
            if (first != NONE) {
                tellWrong(what + " does not hold for " + first);
            }
        }
    }

    // It ends at the first wrong one, since there may be billions of them.
    private static long firstWrong(int start, IntPredicate holds) {
        for (int i = 0; i < PART_SIZE; i++) {
            if (!holds.test(start + i)) {
                return start + i;
            }
        }
        return NONE;
    }

    /** Stands for every possible matrix: each pair of cells, each value of each row, and a fixed sequence. */
    static void forManyMatrices(LongConsumer test) {
        for (int one = 0; one < 64; one++) {
            for (int other = 0; other <= one; other++) {
                withOpposite(1L << one | 1L << other, test);
            }
        }
        for (int r = 0; r < 8; r++) {
            for (long b = 0; b < 256; b++) {
                withOpposite(b << (8 * r), test);
            }
        }
        long state = 0L;
        for (int i = 0; i < CHOSEN_MATRICES; i++) {
            state = next(state);
            test.accept(state ^ state >>> 29);
        }
    }

    private static void withOpposite(long matrix, LongConsumer test) {
        test.accept(matrix);
        test.accept(~matrix);
    }

    // A fixed sequence of numbers, so that every run is the same.
    static long next(long state) {
        return state * 6364136223846793005L + 1442695040888963407L;
    }

    static int rowOf(long matrix, int r) {
        return (int) (matrix >>> (8 * r)) & 255;
    }

    static BitMatrix8 holding(long matrix) {
        BitMatrix8 x = new BitMatrix8();
        for (int r = 0; r < 8; r++) {
            x.setRow(r, rowOf(matrix, r));
        }
        return x;
    }

    static boolean isRow(int r) {
        return 0 <= r && r <= 7;
    }

    static void dueRows(String what, BitMatrix8 x, long matrix) {
        for (int r = 0; r < 8; r++) {
            due(what + ", then row(" + r + ")", x.row(r), rowOf(matrix, r));
        }
    }

    // Written cell by cell over booleans, unlike the class, so that both don't err alike.
    static boolean[][] cellsOf(long matrix) {
        boolean[][] cells = new boolean[8][8];
        for (int bit = 0; bit < 64; bit++) {
            cells[bit / 8][bit % 8] = (matrix & (1L << bit)) != 0;
        }
        return cells;
    }

    static long matrixOf(boolean[][] cells) {
        long matrix = 0;
        for (int bit = 63; bit >= 0; bit--) {
            matrix = 2 * matrix + (cells[bit / 8][bit % 8] ? 1 : 0);
        }
        return matrix;
    }

    static long replaced(long matrix, int r, int b) {
        boolean[][] cells = cellsOf(matrix);
        for (int c = 0; c < 8; c++) {
            cells[r][c] = (b & (1 << c)) != 0;
        }
        return matrixOf(cells);
    }

    static long transposed(long matrix) {
        boolean[][] from = cellsOf(matrix);
        boolean[][] to = new boolean[8][8];
        for (int r = 0; r < 8; r++) {
            for (int c = 0; c < 8; c++) {
                to[c][r] = from[r][c];
            }
        }
        return matrixOf(to);
    }

    static long flipped(long matrix) {
        boolean[][] from = cellsOf(matrix);
        boolean[][] to = new boolean[8][];
        for (int r = 0; r < 8; r++) {
            to[7 - r] = from[r];
        }
        return matrixOf(to);
    }

    static String hex(long matrix) {
        return "0x" + Long.toHexString(matrix);
    }

    static void finish() {
        System.out.println(wrong == 0 ? "all answers are as due" : wrong + " answers are not as due");
        if (wrong != 0) {
            System.exit(1);
        }
    }
}

/** Promise 1: a new matrix is all zero. */
public final class NewMatrixTest {
    public static void main(String[] args) {
        Checks.dueRows("new", new BitMatrix8(), 0L);
        Checks.due("transpose() on a new matrix", new BitMatrix8().transpose(), 0L);
        Checks.due("flipV() on a new matrix", new BitMatrix8().flipV(), 0L);
        for (int r = 0; r < 8; r++) {
            Checks.due("setRow(" + r + ", 255) on a new matrix", new BitMatrix8().setRow(r, 255), 0);
        }
        anotherObjectStaysApart();
        Checks.finish();
    }

    private static void anotherObjectStaysApart() {
        BitMatrix8 early = new BitMatrix8();
        BitMatrix8 full = Checks.holding(-1L);
        Checks.dueRows("early matrix beside a full one", early, 0L);
        Checks.dueRows("new matrix after a full one", new BitMatrix8(), 0L);
        Checks.dueRows("full matrix beside new ones", full, -1L);
    }
}

import java.io.IOException;

/** What .ci/run leans on to see that every call returns: a test that does not end is ended and fails. */
public final class WithinTimeTest {
    // Far more than a test that returns needs to start and end.
    private static final int LONG = 50;
    private static final int SHORT = 1;

    public static void main(String[] args) {
        if (args.length == 1) {
            play(args[0]);
            return;
        }
        Checks.sentence("a test that ends well passes", () -> ends("well", LONG, 0));
        Checks.sentence("a test that ends with exit code 1 fails", () -> ends("badly", LONG, 1));
        Checks.sentence("a test that does not end fails", () -> ends("never", SHORT, WithinTime.NOT_ENDED));
        Checks.finish();
    }

    private static void play(String end) {
        while (end.equals("never")) {
            Thread.onSpinWait();
        }
        System.exit(end.equals("well") ? 0 : 1);
    }

    private static void ends(String end, int seconds, int want) {
        String classes = System.getProperty("java.class.path");
        try {
            int code = WithinTime.run(seconds, "java", "-cp", classes, "WithinTimeTest", end);
            Checks.due("the exit code of a test that ends " + end, code, want);
        } catch (IOException | InterruptedException broken) {
            throw new IllegalStateException(broken);
        }
    }
}

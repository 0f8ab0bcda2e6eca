import java.io.IOException;
import java.util.Arrays;
import java.util.concurrent.TimeUnit;

/** Runs a command, and ends it if it has not ended by itself after so many seconds. */
public final class WithinTime {
    static final int NOT_ENDED = 124;

    private WithinTime() {
    }

    public static void main(String[] args) throws IOException, InterruptedException {
        System.exit(run(Integer.parseInt(args[0]), Arrays.copyOfRange(args, 1, args.length)));
    }

    // The command is a process of its own, since Java has no sure way to end a thread whose call hangs.
    static int run(int seconds, String... command) throws IOException, InterruptedException {
        Process process = new ProcessBuilder(command).inheritIO().start();
        if (process.waitFor(seconds, TimeUnit.SECONDS)) {
            return process.exitValue();
        }
        process.destroyForcibly().waitFor();
        return NOT_ENDED;
    }
}

/** Counts the answers that are not the ones due, and ends the test with exit code 1 if there were any. */
public final class Due {
    private static int wrong = 0;
    private static String part = "";

    private Due() {
    }

    public static void begin(String name) {
        part = name;
    }

    /** A call that throws fails its own part alone: those behind it are still run. */
    public static void run(Runnable tests) {
        try {
            tests.run();
        } catch (RuntimeException thrown) {
            wrong++;
            System.out.println(part + ": a call threw " + thrown);
        }
    }

    public static void is(String call, long got, long want) {
        if (got != want) {
            wrong++;
            System.out.println(part + ": " + call + " answered " + got + ", due is " + want);
        }
    }

    public static void is(String call, boolean got, boolean want) {
        is(call, got ? 1 : 0, want ? 1 : 0);
    }

    public static void end() {
        System.out.println(wrong == 0 ? "all answers are as due" : wrong + " answers are not as due");
        if (wrong != 0) {
            System.exit(1);
        }
    }
}

import java.util.Objects;

/** Counts checks, prints the failed ones and ends the program with exit code 1 if there are any. */
final class Check {
    private static int passed = 0;
    private static int failed = 0;

    private Check() {}

    static void same(String what, Object got, Object due) {
        if (Objects.equals(got, due)) {
            passed++;
        } else {
            failed++;
            System.out.println(what + " answered " + got + ", due is " + due);
        }
    }

    static void yes(String what, boolean got) {
        same(what, got, true);
    }

    static void no(String what, boolean got) {
        same(what, got, false);
    }

    static int failures() {
        return failed;
    }

    static void finish() {
        System.out.println(passed + " checks passed, " + failed + " failed");
        System.exit(failed == 0 ? 0 : 1);
    }
}

/** Counts answers that are due and tells those that are not as due. */
final class Checks {
    private static int passed = 0;
    private static int failed = 0;

    private Checks() {
    }

    static void due(String what, long got, long want) {
        if (got == want) {
            passed++;
            return;
        }
        failed++;
        System.out.println(what + ": got " + got + ", due is " + want);
    }

    static void holds(String what, boolean condition) {
        due(what, condition ? 1 : 0, 1);
    }

    static boolean anyFailed() {
        return failed > 0;
    }

    static void finish() {
        System.out.println(passed + " passed, " + failed + " failed");
        if (failed > 0 || passed == 0) {
            System.exit(1);
        }
    }
}

/** Compares answers with those that are due, and counts. */
final class Due {
    private final String test;
    private int passed = 0;
    private int failed = 0;

    Due(String test) {
        this.test = test;
    }

    void is(String call, long got, long want) {
        if (got == want) passes();
        else fails(call + " answered " + got + ", due is " + want);
    }

    void holds(String what, boolean holds) {
        is(what, holds ? 1 : 0, 1);
    }

    void passes() {
        passed++;
    }

    void fails(String what) {
        failed++;
        if (failed <= 50) System.out.println(test + ": " + what);
    }

    int count() {
        return passed + failed;
    }

    boolean isClean() {
        return failed == 0;
    }

    void end() {
        System.out.println(test + ": " + passed + " passed, " + failed + " failed");
        if (failed != 0) System.exit(1);
    }
}

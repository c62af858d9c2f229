/** Counts checks, tells those that fail, and names what a call throws. */
final class Check {
    interface Call {
        Object answer();
    }

    private int passed;
    private int failed;

    void same(String what, Object due, Object got) {
        if (due.equals(got)) {
            passed++;
        } else {
            failed++;
            System.out.println("FAILED " + what + ": answered " + got + ", due is " + due);
        }
    }

    void is(String what, Object due, Call call) {
        Object got;
        try {
            got = call.answer();
        } catch (RuntimeException thrown) {
            got = "throws " + thrown.getClass().getSimpleName();
        }
        same(what, due, got);
    }

    void refuses(String what, Call call) {
        is(what, "throws UnsupportedOperationException", call);
    }

    void outside(String what, Call call) {
        is(what, "throws IndexOutOfBoundsException", call);
    }

    void illegal(String what, Call call) {
        is(what, "throws IllegalArgumentException", call);
    }

    void noElement(String what, Call call) {
        is(what, "throws NoSuchElementException", call);
    }

    boolean hasFailed() {
        return failed > 0;
    }

    /** Ends the program, with exit code 1 if a check failed. */
    void end(String name) {
        System.out.println(name + ": " + passed + " passed, " + failed + " failed");
        System.exit(failed > 0 ? 1 : 0);
    }
}

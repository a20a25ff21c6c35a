import java.util.Objects;

/** Counts checks, prints those that fail, and ends with exit code 1 if one failed, or if a call does not end. */
final class Check {
    private static final long LONGEST_TEST = 300_000L;

    interface Call {
        Object run();
    }

    private int passed;
    private int failed;

    Check() {
        Thread watch = new Thread(Check::endIfItLastsTooLong);
        watch.setDaemon(true);
        watch.start();
    }

    private static void endIfItLastsTooLong() {
        try {
            Thread.sleep(LONGEST_TEST);
        } catch (InterruptedException e) {
            return;
        }
        System.out.println("a call did not end");
        Runtime.getRuntime().halt(1);
    }

    void is(String what, Object due, Object got) {
        if (Objects.equals(due, got)) {
            passed++;
        } else {
            failed++;
            System.out.println(what + " answered " + got + ", due is " + due);
        }
    }

    void isThrown(String what, Class<? extends RuntimeException> due, Call call) {
        is(what, "throws " + due.getSimpleName(), answer(call));
    }

    /** What a call answers, or, as a text, what it throws. */
    static Object answer(Call call) {
        try {
            return call.run();
        } catch (RuntimeException e) {
            return "throws " + e.getClass().getSimpleName();
        }
    }

    void end(String name) {
        System.out.println(name + ": " + passed + " passed, " + failed + " failed");
        if (failed > 0) {
            System.exit(1);
        }
    }
}

/** Counts what was checked, and tells what was wrong. */
final class Check {
    private static final int MOST_TOLD = 40;

    /** Stands ahead of what is told. */
    static String context = "";

    private static int passed;
    private static int failed;

    private Check() {
    }

    static void equal(String what, long got, long due) {
        report(got == due, what + " answered " + got + ", due is " + due);
    }

    static void equal(String what, boolean got, boolean due) {
        report(got == due, what + " answered " + got + ", due is " + due);
    }

    static void equal(String what, String got, String due) {
        report(got.equals(due), what + " answered \"" + got + "\", due is \"" + due + "\"");
    }

    static void exactly(String what, double got, double due) {
        report(Double.compare(got, due) == 0, what + " answered " + got + ", due is " + due);
    }

    /** The class must be the very one: what the machine throws is often below it. */
    static void raises(String what, Class<? extends RuntimeException> due, Runnable call) {
        Class<?> got = null;
        try {
            call.run();
        } catch (RuntimeException e) {
            got = e.getClass();
        }
        report(got == due, what + " threw " + got + ", due is " + due);
    }

    static void report(boolean right, String otherwise) {
        if (right) {
            passed++;
            return;
        }
        failed++;
        if (failed <= MOST_TOLD) {
            System.out.println("wrong: " + context + otherwise);
        }
    }

    static int count() {
        return passed + failed;
    }

    static void finish(String name) {
        System.out.println(name + ": " + passed + " passed, " + failed + " failed");
        if (failed > 0) {
            System.exit(1);
        }
    }
}

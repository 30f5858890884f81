/** Counts and prints the calls whose answer is not the one that is due. */
final class Check {
    /** A call that may throw. */
    interface Call {
        Object run();
    }

    static final String STATE = "IllegalStateException";
    static final String ARGUMENT = "IllegalArgumentException";
    static final String INDEX = "IndexOutOfBoundsException";

    private static int wrong = 0;
    private static String held = "";

    private Check() {
    }

    /** What is checked from here on holds the class to this sentence of the document. */
    static void sentence(String heading, String words) {
        held = heading + ", \"" + words + "\": ";
    }

    /** Runs tests; a call that throws where an answer is due ends its own test alone. */
    static void run(Runnable... tests) {
        for (Runnable test : tests) {
            held = "";
            try {
                test.run();
            } catch (RuntimeException thrown) {
                wrong++;
                System.out.println(held + "an answer is due, not " + thrown + " at " + place(thrown));
            }
        }
        held = "";
    }

    /** The test's own line in which it was called. */
    private static String place(RuntimeException thrown) {
        for (StackTraceElement at : thrown.getStackTrace()) {
            if (at.getClassName().endsWith("Test")) {
                return at.toString();
            }
        }
        return "an unknown place";
    }

    static void due(String what, Object got, Object want) {
        if (!want.equals(got)) {
            wrong++;
            System.out.println(held + what + " answered " + got + ", due is " + want);
        }
    }

    static void isTrue(String what, boolean holds) {
        due(what, holds, true);
    }

    /** The exception must be of just that class: one of the machine's own is a subclass of some. */
    static void refused(String what, String exception, Call call) {
        String got;
        try {
            got = "nothing, answer " + call.run();
        } catch (RuntimeException thrown) {
            got = thrown.getClass().getSimpleName();
        }
        due(what + " throws", got, exception);
    }

    static void end() {
        if (wrong != 0) {
            System.out.println(wrong + " answers are not as due");
            System.exit(1);
        }
    }
}

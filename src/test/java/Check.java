import java.util.Objects;

/** Compares answers with those that are due, prints the first others, and ends with exit code 1 if there were any. */
final class Check {
    private static final int MOST_PRINTED = 40;

    private static int wrong = 0;
    private static int asked = 0;

    private Check() {
    }

    interface Call {
        Object answer();
    }

    /** What a call answers: its value, or the class of the exception that it throws, which the machine never does. */
    static Object outcome(Call call) {
        try {
            return call.answer();
        } catch (RuntimeException e) {
            return isThrownByCode(e) ? e.getClass() : "by the machine: " + e;
        }
    }

    private static boolean isThrownByCode(RuntimeException e) {
        StackTraceElement[] trace = e.getStackTrace();
        // The machine leaves the trace out of what it has thrown often.
        boolean isFromLibrary = trace.length == 0 || trace[0].getClassName().startsWith("java.");
        return !isFromLibrary && !"/ by zero".equals(e.getMessage());
    }

    static void due(String what, Call call, Object want) {
        Object got = outcome(call);
        asked++;
        if (!Objects.equals(got, want)) {
            wrong++;
            if (wrong <= MOST_PRINTED) {
                System.out.println(what + " answered " + got + ", due is " + want);
            }
        }
    }

    static boolean hasWrong() {
        return wrong > 0;
    }

    static void end() {
        System.out.println(asked + " answers looked at, " + wrong + " not as due");
        if (wrong > 0 || asked == 0) {
            System.exit(1);
        }
    }
}

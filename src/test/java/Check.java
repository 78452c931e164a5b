import java.util.Objects;

/** Counts and prints wrong answers; a test ends through {@link #end}. */
final class Check {
    private static final int MOST_PRINTED = 40;
    private static final int MOST_PRINTED_UNDER_A_NAME = 4;
    private static String name = "";
    private static int printsLeft = MOST_PRINTED;
    private static int wrong = 0;

    private Check() {
    }

    static void same(String what, Object got, Object due) {
        if (!Objects.equals(got, due)) {
            report(what + " answered " + got + ", due is " + due);
        }
    }

    static void within(String what, int got, int low, int high) {
        if (got < low || got > high) {
            report(what + " answered " + got + ", due is " + low + ".." + high);
        }
    }

    /** Each name has prints of its own, so that no failure hides that of another name. */
    static void under(String testName, Runnable test) {
        name = testName + ": ";
        printsLeft = MOST_PRINTED_UNDER_A_NAME;
        try {
            test.run();
        } catch (RuntimeException e) {
            report("a call threw " + e);
        }
        name = "";
        printsLeft = MOST_PRINTED;
    }

    private static void report(String line) {
        wrong++;
        if (printsLeft > 0) {
            printsLeft--;
            System.out.println(name + line);
        }
    }

    static void end() {
        if (wrong > 0) {
            System.out.println(wrong + " wrong");
            System.exit(1);
        }
    }
}

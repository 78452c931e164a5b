import java.util.Objects;

/** Counts and prints wrong answers; a test ends through {@link #end}. */
final class Check {
    private static final int MOST_PRINTED = 40;
    private static int wrong = 0;

    private Check() {
    }

    static void same(String what, Object got, Object due) {
        if (Objects.equals(got, due)) {
            return;
        }
        wrong++;
        if (wrong <= MOST_PRINTED) {
            System.out.println(what + " answered " + got + ", due is " + due);
        }
    }

    static void end() {
        if (wrong > 0) {
            System.out.println(wrong + " wrong");
            System.exit(1);
        }
    }
}

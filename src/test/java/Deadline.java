/** Runs the main method of a test, and ends it as failed when it takes too long: a call that never ends is wrong. */
public final class Deadline {
    /** Far above the few seconds that the slowest test needs, also on a slow machine. */
    private static final long SECONDS = 120;

    private Deadline() {
    }

    public static void main(String[] args) throws ReflectiveOperationException {
        Thread watch = new Thread(() -> endLate(args[0]));
        watch.setDaemon(true);
        watch.start();
        Class.forName(args[0]).getMethod("main", String[].class).invoke(null, (Object) new String[0]);
    }

    private static void endLate(String test) {
        try {
            Thread.sleep(SECONDS * 1000);
        } catch (InterruptedException e) {
            return;
        }
        System.out.println(test + " has not ended after " + SECONDS + " seconds");
        Runtime.getRuntime().halt(1);
    }
}

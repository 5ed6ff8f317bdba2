import java.lang.reflect.Method;

/**
 * Runs a test, and ends with exit code 1 if it has not ended after some seconds: a call that never returns would
 * otherwise hold up all the tests and make none of them fail.
 */
public final class Within {
    public static void main(String[] args) throws Exception {
        int seconds = Integer.parseInt(args[0]);
        Method test = Class.forName(args[1]).getMethod("main", String[].class);
        Thread testing = Thread.currentThread();
        Thread guard = new Thread(() -> giveUpAfter(seconds, testing));
        guard.setDaemon(true);
        guard.start();
        test.invoke(null, (Object) new String[0]);
    }

    private static void giveUpAfter(int seconds, Thread testing) {
        try {
            Thread.sleep(seconds * 1000L);
        } catch (InterruptedException interrupted) {
            System.out.println("  the guard was interrupted");
        }
        System.out.println("  not ended after " + seconds + " seconds; it stands at");
        for (StackTraceElement place : testing.getStackTrace()) {
            System.out.println("    " + place);
        }
        System.out.println("BROKEN: every call returns.");
        Runtime.getRuntime().halt(1);
    }
}

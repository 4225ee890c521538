import java.lang.reflect.Method;

/** Runs the test that is named, and fails it if it has not ended in time: a call must return. */
public final class Guard {
    // Far above what a test needs, so that a slow machine fails none.
    private static final long MILLISECONDS = 60_000;

    public static void main(String[] args) throws Exception {
        Thread watch = new Thread(Guard::failWhenTimeIsUp);
        watch.setDaemon(true);
        watch.start();
        Method test = Class.forName(args[0]).getMethod("main", String[].class);
        test.setAccessible(true);
        test.invoke(null, (Object) new String[0]);
    }

    private static void failWhenTimeIsUp() {
        try {
            Thread.sleep(MILLISECONDS);
        } catch (InterruptedException e) {
            System.out.println("the watch was interrupted");
        }
        System.out.println("not ended after " + MILLISECONDS + " ms: a call does not return");
        System.out.flush();
        Runtime.getRuntime().halt(1);
    }
}

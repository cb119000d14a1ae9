import java.lang.reflect.Method;

/** Runs a test's main method. A call that never ends must fail the test, not hold it up. */
public final class RunTest {
    private static final int SECONDS = 300;

    public static void main(String[] args) throws Exception {
        Thread watch = new Thread(() -> endAfter(SECONDS));
        watch.setDaemon(true);
        watch.start();
        Method test = Class.forName(args[0]).getDeclaredMethod("main", String[].class);
        test.setAccessible(true);
        test.invoke(null, (Object) new String[0]);
    }

    private static void endAfter(int seconds) {
        try {
            Thread.sleep(seconds * 1000L);
        } catch (InterruptedException stopped) {
            return;
        }
        System.out.println("the test did not end within " + seconds + " seconds");
        Runtime.getRuntime().halt(1);
    }
}

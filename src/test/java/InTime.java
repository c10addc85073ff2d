import java.lang.reflect.InvocationTargetException;

/** Runs a test, by its name, and ends it with exit code 3 if it does not end by itself: a call may hang. */
public final class InTime {
    private static final int NOT_ENDED = 3;
    private static final long MOST_MILLISECONDS = 300000;

    private InTime() {
    }

    public static void main(String[] names) throws Exception {
        Thread watch = new Thread(InTime::waitThenStop);
        watch.setDaemon(true);
        watch.start();
        try {
            Class.forName(names[0]).getMethod("main", String[].class).invoke(null, (Object) new String[0]);
        } catch (InvocationTargetException e) {
            e.getCause().printStackTrace();
            System.exit(1);
        }
    }

    private static void waitThenStop() {
        try {
            Thread.sleep(MOST_MILLISECONDS);
        } catch (InterruptedException e) {
            return;
        }
        System.out.println("not at its end after " + MOST_MILLISECONDS / 1000 + " seconds");
        Runtime.getRuntime().halt(NOT_ENDED);
    }
}

/** A call that never ends is a fault too: a test that runs far too long fails instead of standing still. */
final class Patience {
    private static final long MOST_MILLIS = 120000;

    private Patience() {
    }

    static void begin() {
        Thread watch = new Thread(Patience::waitAndFail);
        watch.setDaemon(true);
        watch.start();
    }

    private static void waitAndFail() {
        try {
            Thread.sleep(MOST_MILLIS);
        } catch (InterruptedException e) {
            return;
        }
        System.out.println("a call did not end");
        Runtime.getRuntime().halt(1);
    }
}

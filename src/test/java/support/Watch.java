/** Ends a test that does not end by itself: a broken class may run in circles, and that is a failure, too. */
final class Watch {
    private static final long LONGEST = 120_000;

    private Watch() {
    }

    static void begin() {
        Thread watch = new Thread(() -> {
            try {
                Thread.sleep(LONGEST);
            } catch (InterruptedException e) {
                return;
            }
            System.out.println("the test does not end");
            Runtime.getRuntime().halt(1);
        });
        watch.setDaemon(true);
        watch.start();
    }
}

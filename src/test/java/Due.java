/** Counts and prints the calls of a test whose answer is not the one that is due. */
final class Due {
    private final String test;
    private int checked = 0;
    private int wrong = 0;

    Due(String test) {
        this.test = test;
        Thread watch = new Thread(this::giveUp);
        watch.setDaemon(true);
        watch.start();
    }

    /** No call may fail to end: a test that goes on for five minutes is wrong. */
    private void giveUp() {
        try {
            Thread.sleep(300_000);
        } catch (InterruptedException e) {
            return;
        }
        System.out.println(test + ": a call does not end");
        Runtime.getRuntime().halt(1);
    }

    void is(String call, long got, long want) {
        checked++;
        if (got != want) {
            wrong++;
            System.out.println(test + ": " + call + " answered " + got + ", due is " + want);
        }
    }

    void holds(String what, boolean so) {
        is(what, so ? 1 : 0, 1);
    }

    /** Prints the outcome, and ends the program with exit code 1 if an answer was wrong. */
    void end() {
        System.out.println(test + ": " + checked + " checked, " + wrong + " wrong");
        if (wrong != 0 || checked == 0) {
            System.exit(1);
        }
    }
}

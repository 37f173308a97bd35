/** What it is: 'An object is used for at most 512 calls after it has been made', so the 512th still answers. */
public final class CallsLimitTest {
    private static final int BEFORE_THE_LAST = 511;

    /** Sixty events: a way with four stops to walk over, and payments. */
    private static final String SIXTY = Due.each(0, 9, "event 3 %d 4 0 = 1") + Due.each(0, 3, "event 0 %d 0 %d = 1")
        + Due.each(0, 3, "event 4 %d 9 0 = 1") + """
        event 6 0 1 10 = 1
        event 6 1 2 20 = 1
        event 6 2 3 30 = 1
        """ + Due.each(21, 59, "event 5 0 %d 0 = 1");

    public static void main(String[] args) {
        Due.run("511 refused, then asked", Due.each(1, BEFORE_THE_LAST, "event 1 0 0 0 = 0") + "count 1 = 511");
        Due.run("511 asked, then an event", Due.each(1, BEFORE_THE_LAST, "count 0 = 0") + "event 0 0 0 0 = 1");
        Due.run("511 of wrong numbers, then an event",
            Due.each(1, BEFORE_THE_LAST, "event 7 0 0 0 = IllegalArgumentException") + "event 0 0 0 0 = 1");
        Due.run("event and back in turn", Due.each(1, 255, "event 5 0 %d 0 = 1\n back = done") + """
            event 5 0 7 0 = 1
            money 0 1 = 7
            """);
        lastWith("walk 9 0 = 60");
        lastWith("way 0 3 = 60");
        lastWith("promise 63 = 0");
        lastWith("stock -1 0 = 4");
        lastWith("where 3 60 = 3");
        lastWith("order 9 0 = 1");
        lastWith("money 0 60 = 1560");
        lastWith("needs 0 = 0");
        lastWith("needs 9 = 4");
        lastWith("explained 9 = 14");
        lastWith("told 59 2 = 59");
        lastWith("count 5 = 3");
        lastWith("event 5 0 1 0 = UnsupportedOperationException");
        lastWith("back = done");
        Due.end();
    }

    /** The dearest calls fill the run up to the last one. */
    private static void lastWith(String call) {
        Due.run("512th on sixty events", SIXTY + Due.each(61, BEFORE_THE_LAST, "walk 9 3 = 60") + call);
    }
}

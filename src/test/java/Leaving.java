/** Rows of events for the two promises that leave one of them out. */
final class Leaving {
    /** A unit that comes, is given, goes and comes again; the order is full with it alone. */
    static final String UNIT_TWICE = """
        event 0 0 1 0 = 1        # 0
        event 3 0 1 1 = 1        # 1
        event 4 0 0 0 = 1        # 2
        event 2 0 0 0 = 1        # 3
        event 0 0 1 5 = 1        # 4
        event 1 0 6 0 = 1        # 5
        event 5 0 1 0 = 1        # 6
        """;

    /** An order of two; leaving the second gift out keeps it open, so that none of its units may go. */
    static final String HELD_BACK = """
        event 0 0 1 0 = 1        # 0
        event 0 1 1 0 = 1        # 1
        event 3 0 2 1 = 1        # 2
        event 4 0 0 0 = 1        # 3
        event 4 1 0 0 = 1        # 4
        event 2 0 0 0 = 1        # 5
        event 2 1 0 0 = 1        # 6
        event 0 0 2 3 = 1        # 7
        """;

    /** Sixty events: all behind event 0 need it. */
    static final String ALL_NEED_THE_FIRST = "event 0 0 0 0 = 1\n" + Due.each(2, 60, "event 1 0 %r 0 = 1");

    /** A unit's number is given to two orders, one behind the other; the second is another unit. */
    static final String GIVEN_TWICE = """
        event 0 0 1 0 = 1        # 0
        event 3 0 1 1 = 1        # 1
        event 4 0 0 0 = 1        # 2
        event 3 1 1 1 = 1        # 3
        event 2 0 0 0 = 1        # 4
        event 0 0 1 0 = 1        # 5
        event 4 0 1 0 = 1        # 6
        event 2 0 0 0 = 1        # 7
        event 0 0 1 0 = 1        # 8
        """;

    private Leaving() {
    }
}

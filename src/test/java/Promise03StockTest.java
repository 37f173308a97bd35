/** Promise 3: stock. */
public final class Promise03StockTest {
    private static final String FIVE = """
        event 0 0 0 0 = 1
        event 0 1 0 0 = 1
        event 0 2 5 0 = 1
        event 0 3 5 9 = 1
        event 0 4 0 9 = 1
        """;

    public static void main(String[] args) {
        Due.run("Units of a good at a place", FIVE + """
            stock 0 0 = 2
            stock 0 5 = 1
            stock 9 5 = 1
            stock 9 0 = 1
            stock 5 0 = 0
            stock 0 1 = 0
            """);
        Due.run("of all: -1", FIVE + """
            stock 0 -1 = 3
            stock 9 -1 = 2
            stock 5 -1 = 0
            """);
        Due.run("anywhere: -1", FIVE + """
            stock -1 0 = 3
            stock -1 5 = 2
            stock -1 3 = 0
            """);
        Due.run("of all and anywhere", FIVE + "stock -1 -1 = 5");
        changes();
        fewestAndMost();
        Due.outside("a place outside", FIVE, "stock %d 0", -1, 9, Due.WRONG_NUMBER);
        Due.outside("a place outside, of all", FIVE, "stock %d -1", -1, 9, Due.WRONG_NUMBER);
        Due.outside("a good outside", FIVE, "stock 0 %d", -1, 5, Due.WRONG_NUMBER);
        Due.outside("a good outside, anywhere", FIVE, "stock -1 %d", -1, 5, Due.WRONG_NUMBER);
        Due.run("both outside", "stock -2147483648 2147483647 = IllegalArgumentException");
        Due.end();
    }

    private static void changes() {
        Due.run("units that move, go, come again and are given", FIVE + """
            event 1 0 9 0 = 1
            stock 0 0 = 1
            stock 9 0 = 2
            event 2 0 0 0 = 1
            stock 9 0 = 1
            stock -1 -1 = 4
            event 0 0 3 4 = 1
            stock 4 3 = 1
            stock -1 0 = 2
            event 3 0 1 3 = 1
            event 4 0 0 0 = 1
            stock 4 3 = 1            # given ones are still there
            back = done
            back = done
            back = done
            stock 4 3 = 0
            """);
    }

    private static void fewestAndMost() {
        Due.run("nothing there yet", "stock 0 0 = 0\n stock 9 5 = 0\n stock -1 -1 = 0");
        Due.run("all twenty at one place", Due.each(0, 19, "event 0 %d 5 9 = 1") + """
            stock 9 5 = 20
            stock 9 -1 = 20
            stock -1 5 = 20
            stock -1 -1 = 20
            stock 8 5 = 0
            stock 9 4 = 0
            """);
        Due.run("two at each place", Due.each(0, 19, "event 0 %d 2 %r = 1") + Due.each(0, 9, "stock %d 2 = 2"));
        Due.run("each good", Due.each(0, 5, "event 0 %d %d 4 = 1") + Due.each(0, 5, "stock 4 %d = 1"));
    }
}

/** Promise 9: money. */
public final class Promise09MoneyTest {
    private static final String ROW = """
        event 5 3 10000 0 = 1
        event 5 0 -1 0 = 1
        event 0 0 0 0 = 1
        event 5 3 -10000 0 = 1
        event 5 3 -25 0 = 1
        """;

    public static void main(String[] args) {
        Due.run("The cents of an owner behind so many events", ROW + """
            money 3 0 = 0
            money 3 1 = 10000
            money 3 2 = 10000
            money 3 3 = 10000
            money 3 4 = 0
            money 3 5 = -25
            money 0 1 = 0
            money 0 2 = -1
            money 0 5 = -1
            money 1 5 = 0
            """);
        Due.run("the most", Due.each(1, 60, "event 5 2 10000 0 = 1") + "money 2 60 = 600000\n money 2 59 = 590000");
        Due.run("the least", Due.each(1, 60, "event 5 2 -10000 0 = 1") + "money 2 60 = -600000\n money 1 60 = 0");
        behindSoMany();
        Due.range("no such owner", "event 5 0 1 0 = 1\n", "money %d 0", 0, 3, "0", Due.WRONG_NUMBER);
        Due.range("no such owner, each paid", Due.each(0, 3, "event 5 %d 5 0 = 1"), "money %d 4", 0, 3, "5",
            Due.WRONG_NUMBER);
        Due.outside("no such owner, not so many events", ROW, "money %d 6", 0, 3, Due.NO_ELEMENT);
        Due.end();
    }

    private static void behindSoMany() {
        Due.range("not so many events, none there", "", "money 0 %d", 0, 0, "0", Due.NO_ELEMENT);
        Due.run("behind each of sixty", Due.each(1, 60, "event 5 1 1 0 = 1") + Due.each(0, 60, "money 1 %d = %d"));
        Due.outside("not so many events, of sixty", Due.each(1, 60, "event 5 1 1 0 = 1"), "money 1 %d", 0, 60,
            Due.NO_ELEMENT);
        Due.run("not so many any more", ROW + """
            money 3 5 = -25
            back = done
            money 3 5 = NoSuchElementException
            money 3 4 = 0
            """);
        Due.run("a refused one is not behind", """
            event 1 0 0 0 = 0
            money 0 1 = NoSuchElementException
            """);
    }
}

/** Promise 4: where. */
public final class Promise04WhereTest {
    private static final String ROW = """
        event 0 19 0 3 = 1
        event 5 0 1 0 = 1
        event 1 19 0 0 = 1
        event 2 19 0 0 = 1
        event 0 19 1 9 = 1
        event 0 0 1 5 = 1
        """;

    public static void main(String[] args) {
        Due.run("The place of a unit behind so many events", ROW + """
            where 19 1 = 3
            where 19 2 = 3
            where 19 3 = 0
            where 19 5 = 9
            where 19 6 = 9
            where 0 6 = 5
            """);
        Due.run("-1 if it was not in the house", ROW + """
            where 19 0 = -1          # not yet
            where 19 4 = -1          # gone
            where 0 5 = -1
            where 1 6 = -1           # never
            """);
        behindSoMany();
        units();
        Due.end();
    }

    private static void behindSoMany() {
        Due.run("(0 .. all), none there", "where 0 0 = -1");
        Due.outside("not so many events, none there", "", "where 0 %d", 0, 0, Due.NO_ELEMENT);
        Due.range("(0 .. all), of one", "event 5 0 1 0 = 1\n", "where 0 %d", 0, 1, "-1", Due.NO_ELEMENT);
        Due.run("(0 .. all), of sixty", "event 0 0 0 1 = 1\n" + Due.each(2, 60, "event 1 0 %r 0 = 1")
            + "where 0 0 = -1\n" + Due.each(1, 60, "where 0 %d = %r"));
        Due.outside("not so many events, of sixty", Due.each(1, 60, "event 5 0 1 0 = 1"), "where 0 %d", 0, 60,
            Due.NO_ELEMENT);
        Due.run("not so many any more", ROW + """
            where 0 6 = 5
            back = done
            where 0 6 = NoSuchElementException
            where 0 5 = -1
            """);
        Due.run("a refused one is not behind", """
            event 1 0 0 0 = 0
            where 0 1 = NoSuchElementException
            """);
    }

    private static void units() {
        String all = Due.each(0, 19, "event 0 %d 0 7 = 1");
        Due.range("no such unit", all, "where %d 20", 0, 19, "7", Due.WRONG_NUMBER);
        Due.range("no such unit, behind none", all, "where %d 0", 0, 19, "-1", Due.WRONG_NUMBER);
        Due.outside("no such unit (asked behind)", all, "where %d 21", 0, 19, Due.NO_ELEMENT);
    }
}

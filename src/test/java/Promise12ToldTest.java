/** Promise 12: told. */
public final class Promise12ToldTest {
    private static final String ROW = """
        event 0 19 5 9 = 1
        event 5 3 -10000 0 = 1
        event 6 4 7 99 = 1
        """;

    public static void main(String[] args) {
        Due.run("0 its kind", ROW + """
            told 0 0 = 0
            told 1 0 = 5
            told 2 0 = 6
            """);
        Due.run("1 to 3 a, b, c", ROW + """
            told 0 1 = 19
            told 0 2 = 5
            told 0 3 = 9
            told 1 1 = 3
            told 1 2 = -10000
            told 1 3 = 0
            told 2 1 = 4
            told 2 2 = 7
            told 2 3 = 99
            """);
        Due.run("an event of each kind", """
            event 0 1 2 3 = 1
            event 1 1 4 0 = 1
            event 3 5 1 2 = 1
            event 4 1 5 0 = 1
            event 2 1 0 0 = 1
            told 1 0 = 1
            told 1 2 = 4
            told 2 0 = 3
            told 2 1 = 5
            told 2 2 = 1
            told 2 3 = 2
            told 3 0 = 4
            told 3 1 = 1
            told 3 2 = 5
            told 4 0 = 2
            told 4 1 = 1
            """);
        secondsOfTheRow();
        noSuchEvent();
        Due.range("another what", "event 5 3 -10000 0 = 1\n event 0 0 0 0 = 1\n", "told 1 %d", 0, 3, "0",
            Due.WRONG_NUMBER);
        Due.end();
    }

    private static void secondsOfTheRow() {
        Due.run("its place in the row, from 0 on, each of sixty", Due.each(1, 60, "event 5 0 %d 0 = 1")
            + Due.each(0, 59, "told %d 0 = 5\n told %d 3 = 0") + "told 0 2 = 1\n told 59 2 = 60");
        Due.run("a refused one has no place", """
            event 0 0 0 0 = 1
            event 0 0 0 0 = 0
            event 5 1 7 0 = 1
            told 1 0 = 5
            """);
        Due.run("one told where another was taken back", """
            event 0 19 5 9 = 1
            back = done
            event 5 1 7 0 = 1
            told 0 0 = 5
            told 0 1 = 1
            told 0 2 = 7
            told 0 3 = 0
            """);
    }

    private static void noSuchEvent() {
        Due.outside("no such event, none there", "", "told %d 0", 0, -1, Due.NO_ELEMENT);
        Due.range("no such event, three there", ROW, "told %d 4", 0, 2, Due.WRONG_NUMBER, Due.NO_ELEMENT);
        Due.outside("no such event, sixty there", Due.each(1, 60, "event 5 0 1 0 = 1"), "told %d 0", 0, 59,
            Due.NO_ELEMENT);
        Due.run("no such event any more", ROW + """
            told 2 0 = 6
            back = done
            told 2 0 = NoSuchElementException
            """);
    }
}

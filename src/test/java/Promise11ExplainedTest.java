/** Promise 11: explained. */
public final class Promise11ExplainedTest {
    public static void main(String[] args) {
        Due.run("The first event behind event i that would be refused", Leaving.UNIT_TWICE + """
            explained 0 = 2
            explained 1 = 2
            explained 2 = -1
            explained 3 = 4
            explained 4 = 5
            explained 5 = -1
            explained 6 = -1
            """);
        Due.run("the first of several", Leaving.HELD_BACK + """
            explained 0 = 3
            explained 1 = 4
            explained 2 = 3
            explained 3 = 6
            explained 4 = 5
            explained 5 = 7
            explained 6 = -1
            explained 7 = -1
            """);
        Due.run("a number that is given twice", Leaving.GIVEN_TWICE + """
            explained 0 = 2
            explained 1 = 2
            explained 2 = -1
            explained 3 = 6
            explained 4 = 5
            explained 5 = 6
            explained 6 = -1
            explained 7 = 8
            explained 8 = -1
            """);
        noneAndTheFarthest();
        nothingIsLeftOutForGood();
        noSuchEvent();
        Due.end();
    }

    private static void noneAndTheFarthest() {
        Due.run("-1 if none would, none behind it", "event 0 0 0 0 = 1\n explained 0 = -1");
        Due.run("-1 if none would", Due.each(1, 60, "event 5 0 1 0 = 1") + Due.each(0, 59, "explained %d = -1"));
        Due.run("the very next", Leaving.ALL_NEED_THE_FIRST + "explained 0 = 1\n"
            + Due.each(1, 59, "explained %d = -1"));
        Due.run("the sixtieth", "event 0 0 0 0 = 1\n" + Due.each(2, 59, "event 5 0 1 0 = 1") + """
            event 1 0 1 0 = 1
            explained 0 = 59
            explained 1 = -1
            explained 59 = -1
            """);
    }

    private static void nothingIsLeftOutForGood() {
        Due.run("left out to ask alone", Leaving.UNIT_TWICE + """
            explained 0 = 2
            explained 0 = 2
            count 0 = 7
            count 1 = 0
            where 0 7 = 6
            """);
        Due.run("refused ones are not among the events behind", """
            event 0 0 0 0 = 1
            event 1 1 0 0 = 0
            event 1 0 5 0 = 1
            explained 0 = 1
            """);
    }

    private static void noSuchEvent() {
        Due.outside("no such event, none there", "", "explained %d", 0, -1, Due.NO_ELEMENT);
        Due.range("no such event, one there", "event 5 0 1 0 = 1\n", "explained %d", 0, 0, "-1", Due.NO_ELEMENT);
        Due.outside("no such event, sixty there", Leaving.ALL_NEED_THE_FIRST, "explained %d", 0, 59, Due.NO_ELEMENT);
        Due.run("no such event any more", """
            event 5 0 1 0 = 1
            explained 0 = -1
            back = done
            explained 0 = NoSuchElementException
            """);
    }
}

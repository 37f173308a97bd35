/** Promise 10: needs. */
public final class Promise10NeedsTest {
    public static void main(String[] args) {
        Due.run("would be refused if event i were left out", Leaving.UNIT_TWICE + """
            needs 0 = 2              # the gift and the going; then it comes
            needs 1 = 1
            needs 2 = 0
            needs 3 = 1              # it is in the house when it comes again
            needs 4 = 1
            needs 5 = 0
            needs 6 = 0
            """);
        Due.run("each asked after those that would be kept", Leaving.HELD_BACK + """
            needs 0 = 3              # the gift, its going, the going of unit 1
            needs 1 = 4              # the gift, both goings, and unit 0 is still in the house
            needs 2 = 2              # the gifts; both may go
            needs 3 = 1              # unit 1 may not go, and unit 0 goes
            needs 4 = 2              # unit 0 may neither go nor come again; unit 1, given to none, goes
            needs 5 = 1
            needs 6 = 0
            needs 7 = 0
            """);
        Due.run("a number that is given twice", Leaving.GIVEN_TWICE + """
            needs 0 = 2
            needs 1 = 1
            needs 2 = 0
            needs 3 = 1
            needs 4 = 2              # it can't come, and was given; then it goes, and comes
            needs 5 = 2
            needs 6 = 0
            needs 7 = 1
            needs 8 = 0
            """);
        noneAndAll();
        nothingIsLeftOutForGood();
        noSuchEvent();
        Due.end();
    }

    private static void noneAndAll() {
        Due.run("none behind it", "event 0 0 0 0 = 1\n needs 0 = 0");
        Due.run("none would be", Due.each(1, 60, "event 5 0 1 0 = 1") + Due.each(0, 59, "needs %d = 0"));
        Due.run("all would be", Leaving.ALL_NEED_THE_FIRST + "needs 0 = 59\n" + Due.each(1, 59, "needs %d = 0"));
        Due.run("links told again", """
            event 6 0 1 5 = 1
            event 6 1 0 6 = 1
            needs 0 = 0
            """);
    }

    private static void nothingIsLeftOutForGood() {
        Due.run("left out to ask alone", Leaving.UNIT_TWICE + """
            needs 0 = 2
            needs 3 = 1
            told 3 0 = 2
            count 0 = 7
            count 1 = 0              # trying refuses nothing
            where 0 7 = 6
            """);
        Due.run("refused ones are not among the events behind", """
            event 0 0 0 0 = 1
            event 0 0 0 0 = 0
            event 1 1 0 0 = 0
            event 1 0 5 0 = 1
            needs 0 = 1
            needs 1 = 0
            needs 2 = NoSuchElementException
            """);
    }

    private static void noSuchEvent() {
        Due.outside("no such event, none there", "", "needs %d", 0, -1, Due.NO_ELEMENT);
        Due.range("no such event, one there", "event 5 0 1 0 = 1\n", "needs %d", 0, 0, "0", Due.NO_ELEMENT);
        Due.outside("no such event, sixty there", Leaving.ALL_NEED_THE_FIRST, "needs %d", 0, 59, Due.NO_ELEMENT);
        Due.run("no such event any more", """
            event 5 0 1 0 = 1
            needs 0 = 0
            back = done
            needs 0 = NoSuchElementException
            """);
    }
}

/** Promise 10: needs. */
public final class Promise10NeedsTest {
    public static void main(String[] args) {
        Due.run("each asked after those that would be kept", Leaving.UNIT_TWICE + """
            needs 0 = 2              # the gift and the going; then it comes
            needs 1 = 1
            needs 2 = 0
            needs 3 = 1              # it is in the house when it comes again
            needs 4 = 1
            needs 5 = 0
            needs 6 = 0
            told 3 0 = 2             # nothing was left out for good
            count 0 = 7
            count 1 = 0
            where 0 7 = 6
            """);
        Due.run("an order that stays open", Leaving.HELD_BACK + """
            needs 0 = 3              # the gift, its going, the going of unit 1
            needs 1 = 4              # the gift, both goings, and unit 0 is still in the house
            needs 2 = 2              # the gifts; both may go
            needs 3 = 1              # unit 1 may not go, and unit 0 goes
            needs 4 = 2              # unit 0 may neither go nor come again; unit 1, given to none, goes
            needs 5 = 1
            needs 6 = 0
            needs 7 = 0
            """);
        Due.run("no such event", """
            needs 0 = NoSuchElementException
            event 5 0 1 0 = 1
            needs 0 = 0
            needs 1 = NoSuchElementException
            needs -1 = NoSuchElementException
            needs 2147483647 = NoSuchElementException
            needs -2147483648 = NoSuchElementException
            back = done
            needs 0 = NoSuchElementException
            """);
        Due.end();
    }
}

/** Promise 11: explained. */
public final class Promise11ExplainedTest {
    public static void main(String[] args) {
        Due.run("the first one that would be refused", Leaving.UNIT_TWICE + """
            explained 0 = 2
            explained 1 = 2
            explained 2 = -1
            explained 3 = 4
            explained 4 = 5
            explained 5 = -1
            explained 6 = -1
            count 0 = 7
            count 1 = 0
            """);
        Due.run("an order that stays open", Leaving.HELD_BACK + """
            explained 0 = 3
            explained 1 = 4
            explained 2 = 3
            explained 3 = 6
            explained 4 = 5
            explained 5 = 7
            explained 6 = -1
            explained 7 = -1
            """);
        Due.run("no such event", """
            explained 0 = NoSuchElementException
            event 5 0 1 0 = 1
            explained 0 = -1
            explained 1 = NoSuchElementException
            explained -1 = NoSuchElementException
            explained 2147483647 = NoSuchElementException
            explained -2147483648 = NoSuchElementException
            """);
        Due.end();
    }
}

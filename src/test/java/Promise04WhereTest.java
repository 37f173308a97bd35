/** Promise 4: where. */
public final class Promise04WhereTest {
    public static void main(String[] args) {
        Due.run("a unit's places behind each event", """
            event 0 19 0 3 = 1
            event 5 0 1 0 = 1
            event 1 19 0 0 = 1
            event 2 19 0 0 = 1
            event 0 19 1 9 = 1
            event 0 0 1 5 = 1
            where 19 0 = -1
            where 19 1 = 3
            where 19 2 = 3
            where 19 3 = 0
            where 19 4 = -1
            where 19 5 = 9
            where 19 6 = 9
            where 0 5 = -1
            where 0 6 = 5
            where 1 6 = -1
            back = done
            where 0 5 = -1
            where 0 6 = NoSuchElementException
            """);
        Due.run("outside the ranges", """
            event 0 0 0 0 = 1
            where 0 2 = NoSuchElementException
            where 0 -1 = NoSuchElementException
            where 20 1 = IllegalArgumentException
            where -1 0 = IllegalArgumentException
            where 20 2 = NoSuchElementException       # the unit is asked behind
            where -1 -1 = NoSuchElementException
            where 2147483647 2147483647 = NoSuchElementException
            where -2147483648 1 = IllegalArgumentException
            """);
        Due.end();
    }
}

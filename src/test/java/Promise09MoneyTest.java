/** Promise 9: money. */
public final class Promise09MoneyTest {
    public static void main(String[] args) {
        Due.run("cents behind each event", """
            event 5 3 10000 0 = 1
            event 5 0 -1 0 = 1
            event 0 0 0 0 = 1
            event 5 3 -10000 0 = 1
            event 5 3 -25 0 = 1
            money 3 0 = 0
            money 3 1 = 10000
            money 3 3 = 10000
            money 3 4 = 0
            money 3 5 = -25
            money 0 1 = 0
            money 0 5 = -1
            money 1 5 = 0
            back = done
            money 3 4 = 0
            money 3 5 = NoSuchElementException
            """);
        Due.run("outside the ranges", """
            event 5 0 1 0 = 1
            money 0 2 = NoSuchElementException
            money 0 -1 = NoSuchElementException
            money 4 1 = IllegalArgumentException
            money -1 0 = IllegalArgumentException
            money 4 2 = NoSuchElementException
            money -1 -1 = NoSuchElementException
            money 2147483647 1 = IllegalArgumentException
            money 0 -2147483648 = NoSuchElementException
            """);
        Due.end();
    }
}

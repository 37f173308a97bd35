/** Promise 2: event, with the refusals of each kind that the terms tell. */
public final class Promise02EventTest {
    public static void main(String[] args) {
        ranges();
        unitsRefused();
        givesRefused();
        unitThatComesAgain();
        linksAndPays();
        noRoom();
        Due.end();
    }

    private static void ranges() {
        Due.run("the ends of the ranges", """
            event 0 0 0 0 = 1
            event 0 19 5 9 = 1
            event 1 19 0 0 = 1
            event 1 0 9 0 = 1
            event 3 0 1 5 = 1
            event 3 9 9 0 = 1
            event 4 0 9 0 = 1
            event 5 0 -10000 0 = 1
            event 5 3 10000 0 = 1
            event 6 0 9 1 = 1
            event 6 9 0 99 = 1
            event 2 19 0 0 = 1
            count 0 = 12
            """);
        Due.run("behind the ends", """
            event -1 0 0 0 = IllegalArgumentException
            event 7 0 0 0 = IllegalArgumentException
            event 2147483647 0 0 0 = IllegalArgumentException
            event -2147483648 0 0 0 = IllegalArgumentException
            event 0 -1 0 0 = IllegalArgumentException
            event 0 20 0 0 = IllegalArgumentException
            event 0 0 -1 0 = IllegalArgumentException
            event 0 0 6 0 = IllegalArgumentException
            event 0 0 0 -1 = IllegalArgumentException
            event 0 0 0 10 = IllegalArgumentException
            event 1 -1 0 0 = IllegalArgumentException
            event 1 20 0 0 = IllegalArgumentException
            event 1 0 -1 0 = IllegalArgumentException
            event 1 0 10 0 = IllegalArgumentException
            event 2 -1 0 0 = IllegalArgumentException
            event 2 20 0 0 = IllegalArgumentException
            event 3 -1 1 0 = IllegalArgumentException
            event 3 10 1 0 = IllegalArgumentException
            event 3 0 0 0 = IllegalArgumentException
            event 3 0 10 0 = IllegalArgumentException
            event 3 0 1 -1 = IllegalArgumentException
            event 3 0 1 6 = IllegalArgumentException
            event 4 -1 0 0 = IllegalArgumentException
            event 4 20 0 0 = IllegalArgumentException
            event 4 0 -1 0 = IllegalArgumentException
            event 4 0 10 0 = IllegalArgumentException
            event 5 -1 1 0 = IllegalArgumentException
            event 5 4 1 0 = IllegalArgumentException
            event 5 0 0 0 = IllegalArgumentException
            event 5 0 -10001 0 = IllegalArgumentException
            event 5 0 10001 0 = IllegalArgumentException
            event 6 -1 1 1 = IllegalArgumentException
            event 6 10 1 1 = IllegalArgumentException
            event 6 1 -1 1 = IllegalArgumentException
            event 6 1 10 1 = IllegalArgumentException
            event 6 0 1 0 = IllegalArgumentException
            event 6 0 1 100 = IllegalArgumentException
            event 6 1 1 0 = IllegalArgumentException   # asked before the same place
            count 0 = 0
            count 1 = 0
            """);
        Due.run("numbers that a kind does not have", """
            event 1 0 0 1 = IllegalArgumentException
            event 2 0 1 0 = IllegalArgumentException
            event 2 0 0 1 = IllegalArgumentException
            event 4 0 0 1 = IllegalArgumentException
            event 4 0 0 -1 = IllegalArgumentException
            event 5 0 1 1 = IllegalArgumentException
            count 1 = 0
            """);
    }

    private static void unitsRefused() {
        Due.run("a unit is in the house or not", """
            event 1 4 0 0 = 0
            event 2 4 0 0 = 0
            event 0 4 1 2 = 1
            event 0 4 1 2 = 0
            event 0 4 3 5 = 0
            event 1 4 2 0 = 1     # to where it is
            event 1 4 3 0 = 1
            event 2 4 0 0 = 1
            event 2 4 0 0 = 0
            event 1 4 3 0 = 0
            event 0 4 5 5 = 1
            count 0 = 5
            count 1 = 6
            """);
    }

    private static void givesRefused() {
        Due.run("what is given, and to whom", """
            event 4 0 0 0 = 0     # neither unit nor order
            event 3 0 2 1 = 1
            event 3 0 2 1 = 0     # told
            event 3 0 5 3 = 0
            event 4 0 0 0 = 0     # the unit is not in the house
            event 0 0 1 0 = 1
            event 0 1 2 0 = 1
            event 0 2 1 0 = 1
            event 0 3 1 0 = 1
            event 4 0 1 0 = 0     # the order was not told
            event 4 1 0 0 = 0     # of another good
            event 4 0 0 0 = 1
            event 4 0 0 0 = 0     # was given
            event 3 1 1 1 = 1
            event 4 0 1 0 = 0     # was given to another one
            event 2 0 0 0 = 0     # the order is open
            event 1 0 9 0 = 1     # but it may be moved
            event 4 2 0 0 = 1
            event 4 3 0 0 = 0     # has all
            event 2 0 0 0 = 1     # the order is full
            event 4 3 0 0 = 0     # has all, gone or not
            event 4 3 1 0 = 1
            event 2 3 0 0 = 1
            event 2 1 0 0 = 1     # was never given
            """);
    }

    private static void unitThatComesAgain() {
        Due.run("one that comes again is another one", """
            event 0 7 1 0 = 1
            event 3 0 1 1 = 1
            event 3 1 2 2 = 1
            event 4 7 0 0 = 1
            event 2 7 0 0 = 1
            event 0 7 2 0 = 1     # of another good
            event 4 7 1 0 = 1
            event 2 7 0 0 = 0     # order 1 is open
            order 0 0 = 1
            """);
        Due.run("one that comes again is given to none", """
            event 0 7 1 0 = 1
            event 3 0 1 1 = 1
            event 4 7 0 0 = 1
            event 2 7 0 0 = 1
            event 0 7 1 0 = 1
            order 0 3 = 1
            walk 0 5 = 0
            event 2 7 0 0 = 1
            """);
    }

    private static void linksAndPays() {
        Due.run("the same place", """
            event 6 3 3 5 = 0
            event 6 3 4 5 = 1
            event 6 3 4 5 = 1
            event 6 4 3 6 = 1
            count 1 = 1
            count 0 = 3
            """);
        Due.run("payments are never refused", Due.each(1, 12, "event 5 0 -10000 0 = 1") + "money 0 12 = -120000");
    }

    private static void noRoom() {
        Due.run("sixty events", Due.each(1, 59, "event 5 0 1 0 = 1") + """
            event 1 0 0 0 = 0     # a refused one takes no room
            event 6 0 1 1 = 1
            event 5 0 1 0 = UnsupportedOperationException
            event 1 0 0 0 = UnsupportedOperationException
            event 5 0 0 0 = IllegalArgumentException
            count 0 = 60
            count 1 = 1
            back = done
            event 6 0 2 1 = 1
            event 6 0 3 1 = UnsupportedOperationException
            told 59 2 = 2
            """);
    }
}

/** Promise 5: order. */
public final class Promise05OrderTest {
    public static void main(String[] args) {
        full();
        unitsGiven();
        goods();
        unitsNotGiven();
        whichOrders();
        Due.range("another what", Orders.ALL, "order 4 %d", 0, 3, "0", Due.WRONG_NUMBER);
        Due.end();
    }

    private static void full() {
        Due.run("0 whether it is FULL", """
            event 3 9 2 5 = 1
            event 0 0 5 0 = 1
            event 0 1 5 0 = 1
            order 9 0 = 0            # none of two
            event 4 0 9 0 = 1
            order 9 0 = 0            # one of two
            event 4 1 9 0 = 1
            order 9 0 = 1
            event 2 0 0 0 = 1
            order 9 0 = 1            # gone or not
            event 3 0 1 5 = 1
            order 0 0 = 0            # another one is full
            """);
    }

    private static void unitsGiven() {
        Due.run("1 units given to it", """
            event 3 9 2 5 = 1
            event 3 0 2 5 = 1
            event 0 0 5 0 = 1
            event 0 1 5 0 = 1
            order 9 1 = 0
            event 4 0 9 0 = 1
            order 9 1 = 1
            order 0 1 = 0            # to another one
            event 4 1 9 0 = 1
            order 9 1 = 2
            back = done
            order 9 1 = 1
            """);
        Due.run("1 units given to it, nine, read as: ever, gone or not", Due.each(0, 8, "event 0 %d 5 0 = 1")
            + "event 3 9 9 5 = 1\n" + Due.each(0, 8, "event 4 %d 9 0 = 1") + "order 9 1 = 9\n"
            + Due.each(0, 8, "event 2 %d 0 0 = 1\n order 9 1 = 9"));
    }

    private static void goods() {
        Due.run("2 its good", Due.each(0, 5, "event 3 %d 1 %d = 1") + Due.each(0, 5, "order %d 2 = %d"));
        Due.run("2 its good, told again behind back", """
            event 3 0 1 4 = 1
            back = done
            event 3 0 1 2 = 1
            order 0 2 = 2
            """);
    }

    private static void unitsNotGiven() {
        Due.run("3 units of this good that are in the house and not given", """
            event 3 9 2 5 = 1
            order 9 3 = 0
            event 0 3 4 0 = 1
            order 9 3 = 0            # of another good
            event 0 0 5 0 = 1
            event 0 1 5 9 = 1
            event 0 2 5 4 = 1
            order 9 3 = 3
            event 4 0 9 0 = 1
            order 9 3 = 2
            event 3 0 1 5 = 1
            order 0 3 = 2            # given to another one
            event 4 1 9 0 = 1
            order 9 3 = 1            # also of one that is full
            event 2 0 0 0 = 1
            order 9 3 = 1            # a given one goes
            event 0 0 5 0 = 1
            order 9 3 = 2            # and comes again
            event 2 2 0 0 = 1
            order 9 3 = 1            # one not given goes
            """);
        Due.run("3 all twenty", Due.each(0, 19, "event 0 %d 5 0 = 1") + "event 3 0 1 5 = 1\n order 0 3 = 20");
    }

    private static void whichOrders() {
        Due.range("all told", Orders.ALL, "order %d 0", 0, 9, "0", Due.NO_ELEMENT);
        Due.range("none told", "", "order %d 0", 0, 9, Due.NO_ELEMENT, Due.NO_ELEMENT);
        for (int order = 0; order <= 9; order++) {
            Due.run("it was not told, the others were", Orders.allBut(order) + Due.each(order, order, """
                order %d 0 = NoSuchElementException
                order %d 1 = NoSuchElementException
                order %d 2 = NoSuchElementException
                order %d 3 = NoSuchElementException
                """));
        }
        Due.run("it was not told any more", """
            event 3 0 1 0 = 1
            order 0 0 = 0
            back = done
            order 0 0 = NoSuchElementException
            """);
    }
}

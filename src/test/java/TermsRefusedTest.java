/** Terms: 'An event is REFUSED, and not kept, if it is not possible after those before', each reason by itself. */
public final class TermsRefusedTest {
    public static void main(String[] args) {
        comes();
        movesAndGoes();
        goesWhileItsOrderIsOpen();
        orders();
        givesForTheUnit();
        givesForTheOrder();
        linksAndPays();
        notKept();
        Due.end();
    }

    private static void comes() {
        Due.run("COMES: the unit is in the house", """
            event 0 4 1 2 = 1
            event 0 4 1 2 = 0
            event 0 4 3 5 = 0        # of another good, at another place
            where 4 1 = 2
            stock 2 1 = 1
            stock 5 3 = 0
            event 0 3 1 2 = 1        # another unit
            event 0 5 1 2 = 1
            event 1 4 0 0 = 1
            event 0 4 1 2 = 0        # moved, but in the house
            event 3 0 1 1 = 1
            event 4 4 0 0 = 1
            event 0 4 1 2 = 0        # given, but in the house
            event 2 4 0 0 = 1
            event 0 4 3 5 = 1        # gone
            event 0 4 3 5 = 0
            where 4 8 = 5
            """);
    }

    private static void movesAndGoes() {
        Due.run("MOVES: it is not in the house", """
            event 1 4 0 0 = 0
            event 0 3 1 2 = 1
            event 1 4 0 0 = 0        # another one is
            event 0 4 1 2 = 1
            event 1 4 0 0 = 1
            event 1 4 0 0 = 1        # to where it is
            event 2 4 0 0 = 1
            event 1 4 0 0 = 0
            where 4 5 = -1
            """);
        Due.run("GOES: it is not in the house", """
            event 2 4 0 0 = 0
            event 0 3 1 2 = 1
            event 2 4 0 0 = 0        # another one is
            event 0 4 1 2 = 1
            event 2 4 0 0 = 1
            event 2 4 0 0 = 0
            event 0 4 1 2 = 1
            event 2 4 0 0 = 1
            """);
    }

    private static void goesWhileItsOrderIsOpen() {
        Due.run("GOES: it was given to an order that is open", """
            event 0 0 1 0 = 1
            event 0 1 1 0 = 1
            event 0 2 1 0 = 1
            event 3 9 2 1 = 1
            event 4 0 9 0 = 1
            event 2 0 0 0 = 0
            where 0 5 = 0
            event 1 0 7 0 = 1        # it may be moved
            event 2 0 0 0 = 0
            event 4 1 9 0 = 1
            event 2 0 0 0 = 1        # full
            event 2 1 0 0 = 1        # full, though unit 0 is gone
            """);
        Due.run("GOES: given to a full order while another one is open", """
            event 3 0 2 1 = 1
            event 3 1 1 1 = 1
            event 0 0 1 0 = 1
            event 0 1 1 0 = 1
            event 4 0 0 0 = 1
            event 4 1 1 0 = 1
            event 2 0 0 0 = 0
            event 2 1 0 0 = 1
            """);
        Due.run("GOES: of an open order's good, but not given", """
            event 3 0 2 1 = 1
            event 0 0 1 0 = 1
            event 2 0 0 0 = 1
            """);
    }

    private static void orders() {
        Due.run("ORDERS: the order was told", """
            event 3 4 1 1 = 1
            event 3 4 1 1 = 0
            event 3 4 9 5 = 0        # other pieces, another good
            order 4 2 = 1
            event 3 3 1 1 = 1        # another order
            event 3 5 1 1 = 1
            event 0 0 1 0 = 1
            event 4 0 4 0 = 1
            event 3 4 1 1 = 0        # full
            event 2 0 0 0 = 1
            event 3 4 1 1 = 0        # full, its unit gone
            order 4 1 = 1
            """);
    }

    private static void givesForTheUnit() {
        Due.run("GIVES: the unit is not in the house", """
            event 3 0 2 0 = 1
            event 4 0 0 0 = 0
            event 0 0 0 0 = 1
            event 2 0 0 0 = 1
            event 4 0 0 0 = 0        # gone
            order 0 1 = 0
            event 0 0 0 0 = 1
            event 4 0 0 0 = 1
            """);
        Due.run("GIVES: the unit was given", """
            event 3 0 2 1 = 1
            event 3 1 2 1 = 1
            event 3 2 1 1 = 1
            event 0 0 1 0 = 1
            event 0 1 1 0 = 1
            event 4 0 0 0 = 1
            event 4 0 0 0 = 0        # to this order
            event 4 0 1 0 = 0        # to another one
            event 4 1 2 0 = 1
            event 4 1 1 0 = 0        # to one that is full now
            order 0 1 = 1
            order 1 1 = 0
            event 2 1 0 0 = 1
            event 0 1 1 0 = 1
            event 4 1 1 0 = 1        # another one
            """);
        Due.run("GIVES: the unit is of another good", """
            event 3 0 1 0 = 1
            event 3 5 1 5 = 1
            event 0 0 5 0 = 1
            event 0 1 0 0 = 1
            event 4 0 0 0 = 0
            event 4 1 5 0 = 0
            order 0 1 = 0
            event 4 0 5 0 = 1
            event 4 1 0 0 = 1
            """);
    }

    private static void givesForTheOrder() {
        Due.run("GIVES: the order was not told", """
            event 0 0 0 0 = 1
            event 4 0 9 0 = 0
            event 3 8 1 0 = 1
            event 4 0 9 0 = 0        # another one was
            event 3 9 1 0 = 1
            event 4 0 9 0 = 1
            """);
        Due.run("GIVES: the order has all", """
            event 0 0 0 0 = 1
            event 0 1 0 0 = 1
            event 0 2 0 0 = 1
            event 3 0 2 0 = 1
            event 4 0 0 0 = 1
            event 4 1 0 0 = 1
            event 4 2 0 0 = 0
            order 0 1 = 2
            event 2 0 0 0 = 1
            event 4 2 0 0 = 0        # one of them gone
            event 2 1 0 0 = 1
            event 4 2 0 0 = 0        # all of them gone
            order 0 3 = 1
            """);
    }

    private static void linksAndPays() {
        Due.run("LINKS: the same place", Due.each(0, 9, "event 6 %d %d 5 = 0") + """
            count 5 = 0
            event 6 3 4 5 = 1
            event 6 3 3 5 = 0        # also of a linked one
            event 6 3 4 5 = 1        # told again, not refused
            event 6 4 3 5 = 1
            way 3 3 = 0
            """);
        Due.run("PAYS has no reason to be refused", Due.each(1, 60, "event 5 0 -10000 0 = 1") + "money 0 60 = -600000");
    }

    private static void notKept() {
        Due.run("REFUSED, and not kept, an event of each kind", """
            event 5 1 7 0 = 1
            event 0 0 0 0 = 1
            event 3 0 1 1 = 1
            event 0 0 0 0 = 0
            event 1 1 0 0 = 0
            event 2 1 0 0 = 0
            event 3 0 1 1 = 0
            event 4 0 0 0 = 0
            event 6 0 0 1 = 0
            count 0 = 3
            count 1 = 6
            told 2 0 = 3
            told 3 0 = NoSuchElementException
            event 5 2 9 0 = 1        # takes the place that is next in the row
            told 3 2 = 9
            back = done
            back = done
            count 3 = 0              # the order was the latest one kept
            """);
        Due.run("not possible after those before, but after more of them", """
            event 4 0 0 0 = 0
            event 0 0 2 0 = 1
            event 4 0 0 0 = 0
            event 3 0 1 2 = 1
            event 4 0 0 0 = 1
            """);
    }
}

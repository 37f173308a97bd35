import java.util.Arrays;
import java.util.List;

/** Promise 8: walk. */
public final class Promise08WalkTest {
    public static void main(String[] args) {
        Due.run("in any order, to the last one alone", """
            event 3 2 9 0 = 1
            event 0 0 0 4 = 1
            event 0 1 0 6 = 1
            event 0 2 0 9 = 1
            event 6 4 5 10 = 1
            event 6 5 6 1 = 1
            event 6 4 9 3 = 1
            event 4 0 2 0 = 1
            walk 2 5 = 10            # not back again
            event 4 1 2 0 = 1
            walk 2 5 = 12            # 6 first, then back through 5
            walk 2 4 = 11
            event 4 2 2 0 = 1
            walk 2 5 = 15
            walk 2 9 = 14
            walk 2 4 = 17            # 9, 4, 5, 6
            """);
        Due.run("the fewest, over links that are not the shortest way", """
            event 3 0 1 0 = 1
            event 0 0 0 1 = 1
            event 4 0 0 0 = 1
            event 6 0 1 50 = 1
            walk 0 0 = 50
            event 6 0 2 20 = 1
            event 6 2 1 20 = 1
            walk 0 0 = 40
            """);
        Due.run("the fewest, though it does not go to the nearest one first", """
            event 6 0 2 5 = 1
            event 6 0 9 4 = 1
            event 6 9 4 16 = 1
            event 3 0 3 0 = 1
            event 0 2 0 2 = 1
            event 0 9 0 9 = 1
            event 0 4 0 4 = 1
            event 4 2 0 0 = 1
            event 4 9 0 0 = 1
            event 4 4 0 0 = 1
            walk 0 0 = 30            # 2, 9, 4; 38 with 9 first
            """);
        eachOrderOfFour();
        givenAndInTheHouse();
        none();
        notReached();
        fourAndFive();
        longWalks();
        whichOrders();
        Due.range("a place outside, none given", Orders.ALL, "walk 0 %d", 0, 9, "0", Due.WRONG_NUMBER);
        Due.outside("a place outside (asked behind)", "", "walk 0 %d", 0, 9, Due.NO_ELEMENT);
        Due.end();
    }

    /** Four places in a row behind place 0, in each order: the walk has to go through them in this one. */
    private static void eachOrderOfFour() {
        for (int row = 1111; row <= 4444; row++) {
            int[] at = {0, row / 1000, row / 100 % 10, row / 10 % 10, row % 10};
            if (Arrays.stream(at).sorted().boxed().toList().equals(List.of(0, 1, 2, 3, 4))) {
                StringBuilder links = new StringBuilder();
                for (int i = 0; i < 4; i++) {
                    links.append("event 6 " + at[i] + " " + at[i + 1] + " " + (i + 1) + " = 1\n");
                }
                Due.run("in any order, " + row, links + Due.each(1, 4, "event 0 %d 0 %d = 1") + "event 3 0 4 0 = 1\n"
                    + Due.each(1, 4, "event 4 %d 0 0 = 1") + "walk 0 0 = 10");
            }
        }
    }

    private static void givenAndInTheHouse() {
        Due.run("all units that were given to an order and are in the house", """
            event 3 0 2 0 = 1
            event 3 1 1 0 = 1
            event 6 0 1 10 = 1
            event 6 1 2 20 = 1
            event 6 2 3 40 = 1
            event 0 0 0 1 = 1
            event 0 1 0 2 = 1
            event 0 2 0 3 = 1
            walk 0 0 = 0             # none is given
            event 4 0 0 0 = 1
            walk 0 0 = 10
            event 4 1 0 0 = 1
            walk 0 0 = 30
            event 4 2 1 0 = 1
            walk 0 0 = 30            # given to another one
            walk 1 0 = 70
            event 1 1 3 0 = 1
            walk 0 0 = 70            # moved
            event 2 1 0 0 = 1
            walk 0 0 = 10            # gone
            event 0 1 0 3 = 1
            walk 0 0 = 10            # comes again, given to none
            where 0 1 = -1           # asked of a time before the gifts
            walk 0 0 = 10
            back = done
            back = done
            walk 0 0 = 70
            """);
    }

    private static void none() {
        Due.run("(None: 0.), none given", Orders.ALL + "event 0 0 0 5 = 1\n"
            + Due.each(0, 9, "walk 0 %d = 0\n walk %d 9 = 0"));
        Due.run("(None: 0.), all gone", """
            event 3 0 1 0 = 1
            event 0 0 0 5 = 1
            event 4 0 0 0 = 1
            walk 0 9 = -1
            event 2 0 0 0 = 1
            walk 0 9 = 0
            """);
        Due.run("at the place itself: 0", """
            event 3 0 2 0 = 1
            event 0 0 0 5 = 1
            event 4 0 0 0 = 1
            walk 0 5 = 0
            event 0 1 0 5 = 1
            event 4 1 0 0 = 1
            walk 0 5 = 0
            """);
    }

    private static void notReached() {
        Due.run("-1 if a place can't be reached", """
            event 3 0 2 0 = 1
            event 0 0 0 1 = 1
            event 0 1 0 2 = 1
            event 4 0 0 0 = 1
            walk 0 0 = -1
            event 6 0 1 5 = 1
            walk 0 0 = 5
            event 4 1 0 0 = 1
            walk 0 0 = -1            # one of two
            walk 0 1 = -1            # the other one is here
            event 6 2 3 5 = 1
            walk 0 0 = -1
            walk 0 3 = -1
            event 6 3 0 7 = 1
            walk 0 0 = 22
            back = done
            walk 0 0 = -1
            """);
        Due.run("-1 with four places", Due.each(0, 3, "event 0 %d 0 %d = 1") + "event 3 0 4 0 = 1\n"
            + Due.each(0, 3, "event 4 %d 0 0 = 1") + """
            walk 0 0 = -1
            event 6 0 1 1 = 1
            event 6 1 2 2 = 1
            walk 0 0 = -1            # three of four
            event 6 2 3 4 = 1
            walk 0 0 = 7
            walk 0 9 = -1            # none of four
            """);
    }

    private static void fourAndFive() {
        String links = """
            event 6 0 1 1 = 1
            event 6 1 2 2 = 1
            event 6 2 3 4 = 1
            event 6 3 4 8 = 1
            """;
        String units = Due.each(0, 4, "event 0 %d 1 %d = 1") + "event 3 0 9 1 = 1\n";
        Due.run("-2, not tried, if they lie at more than four places", links + units
            + Due.each(0, 3, "event 4 %d 0 0 = 1") + """
            walk 0 0 = 7
            walk 0 1 = 8
            walk 0 3 = 7
            walk 0 4 = 15
            event 4 4 0 0 = 1
            walk 0 0 = -2
            walk 0 4 = -2
            event 1 4 3 0 = 1        # five units at four places
            walk 0 0 = 7
            """);
        Due.run("-2, also if a place can't be reached", units + Due.each(0, 4, "event 4 %d 0 0 = 1") + "walk 0 9 = -2");
        Due.run("-2 at nine places", Due.each(0, 8, "event 0 %d 1 %d = 1") + "event 3 0 9 1 = 1\n"
            + Due.each(0, 8, "event 4 %d 0 0 = 1") + "walk 0 0 = -2");
        Due.run("nine units at four places are tried", links + Due.each(0, 3, "event 0 %d 1 %d = 1")
            + Due.each(4, 8, "event 0 %d 1 3 = 1") + "event 3 0 9 1 = 1\n" + Due.each(0, 8, "event 4 %d 0 0 = 1")
            + "walk 0 0 = 7");
        Due.run("a fifth place of another order's unit", links + units + Due.each(0, 3, "event 4 %d 0 0 = 1")
            + "event 3 1 1 1 = 1\n event 4 4 1 0 = 1\n walk 0 0 = 7\n walk 1 0 = 15");
        Due.run("five places until one goes", links + Due.each(0, 4, "event 0 %d 1 %d = 1") + "event 3 0 5 1 = 1\n"
            + Due.each(0, 4, "event 4 %d 0 0 = 1") + "walk 0 0 = -2\n event 2 4 0 0 = 1\n walk 0 0 = 7");
    }

    private static void longWalks() {
        Due.run("a row of all places: from its end to the four last ones", Links.ROW_OF_ALL + """
            event 3 0 4 0 = 1
            """ + Due.each(6, 9, "event 0 %d 0 %d = 1\n event 4 %d 0 0 = 1") + """
            walk 0 0 = 891
            walk 0 9 = 297
            walk 0 7 = 396
            """);
        Due.run("a star: back through the middle each time", Due.each(1, 5, "event 6 0 %d 99 = 1")
            + "event 3 0 4 0 = 1\n" + Due.each(1, 4, "event 0 %d 0 %d = 1\n event 4 %d 0 0 = 1") + """
            walk 0 5 = 792
            walk 0 0 = 693
            walk 0 1 = 594
            """);
    }

    private static void whichOrders() {
        Due.range("all told", Orders.ALL, "walk %d 0", 0, 9, "0", Due.NO_ELEMENT);
        for (int order = 0; order <= 9; order++) {
            Due.run("the order was not told", Orders.allBut(order) + "walk " + order + " 0 = NoSuchElementException");
        }
        Due.run("the order was not told any more", """
            event 3 0 1 0 = 1
            walk 0 0 = 0
            back = done
            walk 0 0 = NoSuchElementException
            """);
    }
}

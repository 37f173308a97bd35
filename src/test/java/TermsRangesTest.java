/** Terms: the range of each number of each kind, and 'numbers that a kind does not have are 0'. */
public final class TermsRangesTest {
    private static final String UNITS = Due.each(0, 19, "event 0 %d 0 0 = 1");
    private static final String UNIT = "event 0 0 0 0 = 1\n";
    private static final String ORDER = "event 3 0 9 0 = 1\n";

    public static void main(String[] args) {
        kinds();
        comes();
        moves();
        goes();
        orders();
        gives();
        pays();
        links();
        numbersThatAKindDoesNotHave();
        outsideIsNeitherKeptNorRefused();
        Due.end();
    }

    private static void kinds() {
        Due.run("Kinds: 0 .. 6", """
            event 0 0 0 0 = 1
            event 1 0 0 0 = 1
            event 2 0 0 0 = 1
            event 3 0 1 0 = 1
            event 4 0 0 0 = 0
            event 5 0 1 0 = 1
            event 6 0 1 1 = 1
            """);
        Due.outside("a kind outside, with numbers 0", "", "event %d 0 0 0", 0, 6, Due.WRONG_NUMBER);
        Due.outside("a kind outside, with an order's numbers", "", "event %d 0 1 0", 0, 6, Due.WRONG_NUMBER);
        Due.outside("a kind outside, with a link's numbers", "", "event %d 0 1 1", 0, 6, Due.WRONG_NUMBER);
    }

    private static void comes() {
        event("COMES: unit a (0 .. 19)", "", "event 0 %d 0 0", 0, 19, "1");
        event("COMES: of good b (0 .. 5)", "", "event 0 0 %d 0", 0, 5, "1");
        event("COMES: at place c (0 .. 9)", "", "event 0 0 0 %d", 0, 9, "1");
        event("COMES: good, of one that is in the house", UNIT, "event 0 0 %d 0", 0, 5, "0");
        event("COMES: place, of one that is in the house", UNIT, "event 0 0 0 %d", 0, 9, "0");
    }

    private static void moves() {
        event("MOVES: unit a, all in the house", UNITS, "event 1 %d 9 0", 0, 19, "1");
        event("MOVES: unit a, none in the house", "", "event 1 %d 9 0", 0, 19, "0");
        event("MOVES: to place b", UNIT, "event 1 0 %d 0", 0, 9, "1");
        event("MOVES: to place b, not in the house", "", "event 1 0 %d 0", 0, 9, "0");
    }

    private static void goes() {
        event("GOES: unit a, all in the house", UNITS, "event 2 %d 0 0", 0, 19, "1");
        event("GOES: unit a, none in the house", "", "event 2 %d 0 0", 0, 19, "0");
    }

    private static void orders() {
        event("ORDERS: order a (0 .. 9)", "", "event 3 %d 1 0", 0, 9, "1");
        event("ORDERS: wants b pieces (1 .. 9)", "", "event 3 0 %d 0", 1, 9, "1");
        event("ORDERS: of good c", "", "event 3 0 1 %d", 0, 5, "1");
        event("ORDERS: pieces, of one that was told", ORDER, "event 3 0 %d 0", 1, 9, "0");
        event("ORDERS: good, of one that was told", ORDER, "event 3 0 1 %d", 0, 5, "0");
    }

    private static void gives() {
        event("GIVES: unit a", UNITS + ORDER, "event 4 %d 0 0", 0, 19, "1");
        event("GIVES: unit a, none in the house", ORDER, "event 4 %d 0 0", 0, 19, "0");
        event("GIVES: to order b", UNIT + Orders.ALL, "event 4 0 %d 0", 0, 9, "1");
        event("GIVES: to order b, none was told", UNIT, "event 4 0 %d 0", 0, 9, "0");
    }

    private static void pays() {
        event("PAYS: owner a (0 .. 3)", "", "event 5 %d 1 0", 0, 3, "1");
        event("PAYS: b cents (-10000 .. 10000, not 0), below 0", "", "event 5 0 %d 0", -10000, -1, "1");
        event("PAYS: b cents (-10000 .. 10000, not 0), above 0", "", "event 5 0 %d 0", 1, 10000, "1");
    }

    private static void links() {
        Due.run("LINKS: places a and b, all of them", Due.each(0, 8, "event 6 %d 9 1 = 1")
            + Due.each(0, 8, "event 6 9 %d 1 = 1"));
        Due.outside("LINKS: place a", "", "event 6 %d 5 1", 0, 9, Due.WRONG_NUMBER);
        Due.outside("LINKS: place b", "", "event 6 5 %d 1", 0, 9, Due.WRONG_NUMBER);
        Due.outside("LINKS: the same place, but none", "", "event 6 %d %d 1", 0, 9, Due.WRONG_NUMBER);
        event("LINKS: with c seconds (1 .. 99)", "", "event 6 0 1 %d", 1, 99, "1");
        event("LINKS: with c seconds, told again", "event 6 0 1 5 = 1\n", "event 6 0 1 %d", 1, 99, "1");
        event("LINKS: with c seconds, the same place", "", "event 6 1 1 %d", 1, 99, "0");
    }

    /** 0 is the whole range: 1 and -1 are the ones outside. */
    private static void numbersThatAKindDoesNotHave() {
        event("MOVES has no c", UNIT, "event 1 0 5 %d", 0, 0, "1");
        event("MOVES has no c, also if it is refused", "", "event 1 0 5 %d", 0, 0, "0");
        event("GOES has no b", UNIT, "event 2 0 %d 0", 0, 0, "1");
        event("GOES has no b, also if it is refused", "", "event 2 0 %d 0", 0, 0, "0");
        event("GOES has no c", UNIT, "event 2 0 0 %d", 0, 0, "1");
        event("GOES has no c, also if it is refused", "", "event 2 0 0 %d", 0, 0, "0");
        event("GIVES has no c", UNIT + ORDER, "event 4 0 0 %d", 0, 0, "1");
        event("GIVES has no c, also if it is refused", "", "event 4 0 0 %d", 0, 0, "0");
        event("PAYS has no c", "", "event 5 0 1 %d", 0, 0, "1");
        Due.run("GOES has neither b nor c", UNIT + """
            event 2 0 1 1 = IllegalArgumentException
            event 2 0 1 -1 = IllegalArgumentException
            event 2 0 -1 1 = IllegalArgumentException
            """);
    }

    private static void outsideIsNeitherKeptNorRefused() {
        Due.run("a number outside: neither kept nor counted as refused", """
            event 7 0 0 0 = IllegalArgumentException
            event 0 20 0 0 = IllegalArgumentException
            event 1 0 10 0 = IllegalArgumentException
            event 2 0 0 1 = IllegalArgumentException
            event 3 0 10 0 = IllegalArgumentException
            event 4 0 0 1 = IllegalArgumentException
            event 5 0 0 0 = IllegalArgumentException
            event 6 0 1 100 = IllegalArgumentException
            count 0 = 0
            count 1 = 0
            """);
    }

    private static void event(String title, String before, String call, int least, int most, String due) {
        Due.range(title, before, call, least, most, due, Due.WRONG_NUMBER);
    }
}

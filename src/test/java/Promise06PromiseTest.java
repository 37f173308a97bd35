/** Promise 6: promise. */
public final class Promise06PromiseTest {
    public static void main(String[] args) {
        atMost();
        inTheHouseAndNotGiven();
        justEnough();
        moreThanSix();
        fullOnes();
        notTold();
        Due.end();
    }

    private static void atMost() {
        Due.run("at most, not the first ones that fit", """
            event 3 0 3 1 = 1
            event 3 1 1 1 = 1
            event 3 2 2 1 = 1
            event 3 3 1 2 = 1
            event 0 0 1 0 = 1
            event 0 1 1 4 = 1
            event 0 2 1 9 = 1
            promise 7 = 2            # orders 1 and 2, though 0 alone takes all
            promise 5 = 1
            promise 15 = 2
            promise 8 = 0            # of another good
            event 0 3 2 0 = 1
            promise 15 = 3
            """);
        Due.run("none of the set", "promise 0 = 0\n event 3 0 1 0 = 1\n event 0 0 0 0 = 1\n promise 0 = 0");
        Due.run("nothing in the house", Orders.ALL + "promise 63 = 0\n promise 1 = 0\n promise 512 = 0");
        Due.run("each order alone, and a good of its own", Due.each(0, 5, "event 3 %d 1 %d = 1")
            + Due.each(0, 5, "event 0 %d %d 0 = 1") + """
            promise 1 = 1
            promise 2 = 1
            promise 4 = 1
            promise 8 = 1
            promise 16 = 1
            promise 32 = 1
            promise 63 = 6
            """);
    }

    private static void inTheHouseAndNotGiven() {
        Due.run("what is in the house and not given", """
            event 3 0 2 1 = 1
            event 3 1 1 1 = 1
            event 0 0 1 0 = 1
            promise 2 = 1
            event 4 0 0 0 = 1
            promise 2 = 0            # given to another one
            event 0 1 1 0 = 1
            promise 2 = 1
            event 2 1 0 0 = 1
            promise 2 = 0            # gone
            """);
    }

    private static void justEnough() {
        Due.run("one unit too few, then enough", "event 3 0 9 0 = 1\n"
            + Due.each(0, 7, "event 0 %d 0 0 = 1\n promise 1 = 0") + "event 0 8 0 0 = 1\n promise 1 = 1");
        Due.run("an order that has some of them lacks the rest", """
            event 3 0 3 0 = 1
            event 0 0 0 0 = 1
            event 0 1 0 0 = 1
            event 4 0 0 0 = 1
            promise 1 = 0            # lacks two, one is free
            event 0 2 0 0 = 1
            promise 1 = 1
            """);
    }

    /** All sets of the ten orders, a quarter of them on each object; three units are free, and each order wants one. */
    private static void moreThanSix() {
        for (int quarter = 0; quarter < 4; quarter++) {
            StringBuilder calls = new StringBuilder(Orders.ALL + Due.each(0, 2, "event 0 %d 0 0 = 1"));
            for (int set = quarter * 256; set < (quarter + 1) * 256; set++) {
                int size = Integer.bitCount(set);
                calls.append("promise " + set + " = " + (size > 6 ? -1 : Math.min(size, 3)) + "\n");
            }
            Due.run("-1, not tried, if the set has more than six", calls.toString());
        }
        Due.run("six that can all be made full", Orders.ALL + Due.each(0, 9, "event 0 %d 0 0 = 1") + """
            promise 63 = 6
            promise 1008 = 6
            promise 127 = -1
            promise 1023 = -1
            """);
    }

    private static void fullOnes() {
        String seven = Due.each(0, 6, "event 3 %d 1 0 = 1") + Due.each(0, 12, "event 0 %d 0 0 = 1");
        Due.run("FULL ones are left out", seven + "promise 63 = 6\n event 4 0 0 0 = 1\n" + """
            promise 1 = 0
            promise 63 = 5
            promise 126 = 6
            """);
        Due.run("FULL ones count towards the six", seven + "event 4 0 0 0 = 1\n promise 127 = -1\n"
            + Due.each(1, 6, "event 4 %d %d 0 = 1\n promise 127 = -1") + "promise 63 = 0");
    }

    private static void notTold() {
        for (int order = 0; order <= 9; order++) {
            int bit = 1 << order;
            Due.run("an order in it that was not told", Orders.allBut(order) + refused(bit) + refused(bit | 1 | 512)
                + "promise " + (1 & ~bit) + " = 0");
        }
        for (int order = 10; order <= 31; order++) {
            int bit = 1 << order;
            Due.run("an order in it that there is not", Orders.ALL + refused(bit) + refused(bit | 1) + "promise 1 = 0");
        }
        Due.run("all bits", Orders.ALL + refused(-1) + refused(Integer.MAX_VALUE));
        Due.run("not told any more", """
            event 3 9 1 0 = 1
            promise 512 = 0
            back = done
            promise 512 = NoSuchElementException
            promise 0 = 0
            """);
    }

    private static String refused(int set) {
        return "promise " + set + " = " + Due.NO_ELEMENT + "\n";
    }
}

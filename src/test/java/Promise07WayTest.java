/** Promise 7: way. */
public final class Promise07WayTest {
    public static void main(String[] args) {
        Due.run("The seconds of the shortest way", """
            event 6 0 9 50 = 1
            way 0 9 = 50
            way 9 0 = 50             # both directions
            event 6 0 4 20 = 1
            event 6 4 9 31 = 1
            way 0 9 = 50             # over 4 it is longer
            event 6 4 2 10 = 1
            event 6 2 9 19 = 1
            way 0 9 = 49             # three links are shorter than one
            way 9 0 = 49
            way 4 9 = 29
            """);
        toldAgain();
        none();
        Due.run("to itself", Due.each(0, 9, "way %d %d = 0") + "event 6 3 4 1 = 1\n way 3 3 = 0\n way 4 4 = 0");
        shortestAndLongest();
        Due.run("each place", Due.each(1, 9, "event 6 0 %d 7 = 1") + Due.each(1, 9, "way %d 0 = 7\n way 0 %d = 7")
            + Due.each(2, 9, "way 1 %d = 14"));
        Due.outside("from outside", "", "way %d 0", 0, 9, Due.WRONG_NUMBER);
        Due.outside("to outside", "", "way 0 %d", 0, 9, Due.WRONG_NUMBER);
        Due.outside("both outside, the same", "", "way %d %d", 0, 9, Due.WRONG_NUMBER);
        Due.end();
    }

    private static void toldAgain() {
        Due.run("told again, the latest counts", """
            event 6 4 9 20 = 1
            event 6 4 9 99 = 1
            way 4 9 = 99             # also if it is longer
            event 6 4 9 1 = 1
            way 9 4 = 1
            event 6 9 4 60 = 1       # from its other place
            way 4 9 = 60
            way 9 4 = 60
            back = done
            way 4 9 = 1
            way 9 4 = 1
            back = done
            way 4 9 = 99
            """);
    }

    private static void none() {
        Due.run("-1 if there is none", """
            way 0 9 = -1
            event 6 0 1 1 = 1
            event 6 8 9 1 = 1
            way 0 9 = -1             # two parts that are not linked
            way 1 8 = -1
            event 6 1 8 1 = 1
            way 0 9 = 3
            back = done
            way 0 9 = -1
            event 6 0 0 1 = 0
            way 0 5 = -1
            """);
    }

    private static void shortestAndLongest() {
        Due.run("one second", "event 6 0 1 1 = 1\n way 0 1 = 1");
        Due.run("the longest way there is: nine links of 99", Links.ROW_OF_ALL + """
            way 0 9 = 891
            way 9 0 = 891
            """);
        Due.run("nine links, the places in no order", """
            event 6 5 2 1 = 1
            event 6 2 8 2 = 1
            event 6 8 0 3 = 1
            event 6 0 9 4 = 1
            event 6 9 4 5 = 1
            event 6 4 1 6 = 1
            event 6 1 7 7 = 1
            event 6 7 3 8 = 1
            event 6 3 6 9 = 1
            way 5 6 = 45
            way 6 5 = 45
            """);
    }
}

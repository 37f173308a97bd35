/** Promise 14: count. */
public final class Promise14CountTest {
    public static void main(String[] args) {
        events();
        refused();
        units();
        ordersTold();
        fullOnes();
        links();
        Due.range("-1 for another what", "", "count %d", 0, 5, "0", "-1");
        Due.outside("-1 for another what, an event there", "event 0 0 0 0 = 1\n", "count %d", 0, 5, "-1");
        Due.end();
    }

    private static void events() {
        Due.run("0 events", "count 0 = 0\n" + Due.each(1, 60, "event 5 0 1 0 = 1\n count 0 = %d") + """
            event 5 0 1 0 = UnsupportedOperationException
            count 0 = 60
            back = done
            count 0 = 59
            event 1 0 0 0 = 0
            count 0 = 59
            """);
    }

    private static void refused() {
        Due.run("1 refused ones so far", """
            event 0 0 1 3 = 1
            count 1 = 0
            event 0 0 1 3 = 0
            count 1 = 1
            event 6 0 0 1 = 0
            count 1 = 2
            event 7 0 0 0 = IllegalArgumentException
            where 20 0 = IllegalArgumentException
            needs 0 = 0
            count 1 = 2              # only events that are refused
            back = done
            count 1 = 2              # so far
            back = IllegalStateException
            count 1 = 2
            event 1 0 3 0 = 0
            count 1 = 3
            """);
        Due.run("1 trying refuses nothing", """
            event 0 0 1 3 = 1
            event 1 0 4 0 = 1
            needs 0 = 1
            explained 0 = 1
            count 1 = 0
            """);
        Due.run("1 no room is not refused", Due.each(1, 60, "event 5 0 1 0 = 1") + """
            event 1 0 0 0 = UnsupportedOperationException
            count 1 = 0
            """);
        Due.run("1 more than there is room for events", Due.each(1, 100, "event 1 0 0 0 = 0\n count 1 = %d"));
    }

    private static void units() {
        Due.run("2 units in the house", """
            count 2 = 0
            event 0 0 1 3 = 1
            count 2 = 1
            event 0 1 2 4 = 1
            count 2 = 2
            event 1 1 5 0 = 1
            count 2 = 2
            event 3 0 1 1 = 1
            event 4 0 0 0 = 1
            count 2 = 2              # given ones are in it
            event 2 0 0 0 = 1
            count 2 = 1
            back = done
            count 2 = 2
            """);
        Due.run("2 all twenty", Due.each(0, 19, "event 0 %d 0 0 = 1") + """
            count 2 = 20
            event 2 19 0 0 = 1
            count 2 = 19
            """);
    }

    private static void ordersTold() {
        Due.run("3 orders told", """
            count 3 = 0
            event 3 9 1 0 = 1
            count 3 = 1
            event 3 9 1 0 = 0
            count 3 = 1
            event 0 0 0 0 = 1
            event 4 0 9 0 = 1
            count 3 = 1              # full ones too
            """);
        Due.run("3 all ten", Due.each(0, 9, "event 3 %d 9 5 = 1") + """
            count 3 = 10
            count 4 = 0
            back = done
            count 3 = 9
            """);
    }

    private static void fullOnes() {
        Due.run("4 FULL ones", """
            event 3 0 1 1 = 1
            event 3 9 2 1 = 1
            event 0 0 1 3 = 1
            event 0 1 1 3 = 1
            count 4 = 0
            event 4 0 0 0 = 1
            count 4 = 1
            event 4 1 9 0 = 1
            count 4 = 1              # one of two
            event 2 0 0 0 = 1
            count 4 = 1              # full, though its unit is gone
            event 0 2 1 8 = 1
            event 4 2 9 0 = 1
            count 4 = 2
            back = done
            count 4 = 1
            """);
        Due.run("4 all ten", Due.each(0, 9, "event 3 %d 1 0 = 1\n event 0 %d 0 0 = 1\n event 4 %d %d 0 = 1")
            + "count 4 = 10\n count 3 = 10");
    }

    private static void links() {
        Due.run("5 links", """
            count 5 = 0
            event 6 0 1 1 = 1
            count 5 = 1
            event 6 8 9 1 = 1
            count 5 = 2
            event 6 4 4 1 = 0
            count 5 = 2
            back = done
            count 5 = 1
            """);
        Due.run("5 links, read as: one told again is one link", """
            event 6 0 1 1 = 1
            event 6 0 1 2 = 1
            event 6 1 0 3 = 1
            count 5 = 1
            count 0 = 3
            back = done
            count 5 = 1
            """);
        StringBuilder all = new StringBuilder();
        for (int a = 0; a <= 9; a++) {
            all.append(Due.each(a + 1, 9, "event 6 " + a + " %d 9 = 1"));
        }
        Due.run("5 all forty-five", all + "count 5 = 45\n count 0 = 45\n back = done\n count 5 = 44");
    }
}

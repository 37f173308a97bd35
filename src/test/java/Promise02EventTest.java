/** Promise 2: event. TermsRangesTest has each range, TermsRefusedTest each reason for a refusal. */
public final class Promise02EventTest {
    public static void main(String[] args) {
        Due.run("An event: 1, one of each kind", """
            event 0 19 5 9 = 1
            event 1 19 0 0 = 1
            event 3 9 2 5 = 1
            event 4 19 9 0 = 1
            event 5 3 -10000 0 = 1
            event 6 0 9 99 = 1
            back = done
            back = done
            back = done
            event 2 19 0 0 = 1
            count 0 = 4
            """);
        Due.run("0 if it is refused by what was before", """
            event 1 19 0 0 = 0
            event 2 19 0 0 = 0
            event 4 19 9 0 = 0
            event 6 5 5 1 = 0
            event 0 19 5 9 = 1
            event 0 19 5 9 = 0
            event 3 9 1 5 = 1
            event 3 9 1 5 = 0
            count 0 = 2
            count 1 = 6
            """);
        Due.run("what was taken back was not before", """
            event 0 0 0 0 = 1
            back = done
            event 1 0 0 0 = 0
            event 0 0 0 0 = 1
            """);
        Due.run("kind, a, b or c outside the ranges told", """
            event 7 0 0 0 = IllegalArgumentException
            event 0 20 0 0 = IllegalArgumentException
            event 0 0 6 0 = IllegalArgumentException
            event 0 0 0 10 = IllegalArgumentException
            event 2147483647 2147483647 2147483647 2147483647 = IllegalArgumentException
            event -2147483648 -2147483648 -2147483648 -2147483648 = IllegalArgumentException
            """);
        sixty();
        Due.end();
    }

    private static void sixty() {
        Due.run("the sixtieth is kept, the next one not: there are sixty", Due.each(1, 60, "event 5 0 %d 0 = 1") + """
            count 0 = 60
            event 5 0 61 0 = UnsupportedOperationException
            count 0 = 60
            money 0 60 = 1830
            """);
        Due.run("each kind, when there are sixty", "event 0 0 0 0 = 1\n event 3 0 1 0 = 1\n"
            + Due.each(3, 60, "event 5 0 1 0 = 1") + """
            event 0 1 0 0 = UnsupportedOperationException
            event 1 0 1 0 = UnsupportedOperationException
            event 2 0 0 0 = UnsupportedOperationException
            event 3 1 1 0 = UnsupportedOperationException
            event 4 0 0 0 = UnsupportedOperationException
            event 5 0 1 0 = UnsupportedOperationException
            event 6 0 1 1 = UnsupportedOperationException
            """);
        Due.run("a refused one takes no room", Due.each(1, 59, "event 5 0 1 0 = 1") + """
            event 1 0 0 0 = 0
            event 6 0 0 1 = 0
            event 6 0 1 1 = 1
            event 6 0 2 1 = UnsupportedOperationException
            """);
        Due.run("one taken back makes room", Due.each(1, 60, "event 5 0 1 0 = 1") + """
            back = done
            event 1 0 0 0 = 0
            event 6 0 2 1 = 1
            event 6 0 3 1 = UnsupportedOperationException
            told 59 2 = 2
            """);
    }
}

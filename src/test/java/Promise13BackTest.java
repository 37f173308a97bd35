/** Promise 13: back. */
public final class Promise13BackTest {
    public static void main(String[] args) {
        eachKind();
        refusedOnes();
        thereIsNone();
        Due.end();
    }

    private static void eachKind() {
        Due.run("The latest event is taken back: COMES", """
            event 0 0 1 3 = 1
            back = done
            stock -1 -1 = 0
            where 0 0 = -1
            event 1 0 4 0 = 0
            event 0 0 2 4 = 1
            """);
        Due.run("taken back: MOVES", """
            event 0 0 1 3 = 1
            event 1 0 4 0 = 1
            back = done
            where 0 1 = 3
            where 0 2 = NoSuchElementException
            """);
        Due.run("taken back: GOES", """
            event 0 0 1 3 = 1
            event 3 0 1 1 = 1
            event 4 0 0 0 = 1
            event 2 0 0 0 = 1
            back = done
            stock 3 1 = 1
            order 0 3 = 0            # given, as before
            walk 0 0 = -1
            """);
        Due.run("taken back: ORDERS", """
            event 3 0 1 1 = 1
            back = done
            order 0 0 = NoSuchElementException
            count 3 = 0
            event 3 0 2 5 = 1        # it may be told again
            order 0 2 = 5
            """);
        Due.run("taken back: GIVES", """
            event 0 0 1 3 = 1
            event 3 0 1 1 = 1
            event 4 0 0 0 = 1
            back = done
            order 0 0 = 0
            order 0 1 = 0
            order 0 3 = 1
            event 4 0 0 0 = 1        # it may be given again
            """);
        Due.run("taken back: PAYS", """
            event 5 0 7 0 = 1
            event 5 0 9 0 = 1
            back = done
            money 0 1 = 7
            money 0 2 = NoSuchElementException
            """);
        Due.run("taken back: LINKS", """
            event 6 0 1 9 = 1
            event 6 0 1 5 = 1
            back = done
            way 0 1 = 9              # told before
            back = done
            way 0 1 = -1
            count 5 = 0
            """);
    }

    private static void refusedOnes() {
        Due.run("the latest one is the latest kept", """
            event 5 0 7 0 = 1
            event 2 0 0 0 = 0
            back = done
            count 0 = 0
            back = IllegalStateException
            """);
        Due.run("refused ones so far stay counted", """
            event 5 0 7 0 = 1
            event 2 0 0 0 = 0
            back = done
            count 1 = 1
            """);
    }

    private static void thereIsNone() {
        Due.run("there is none, on a new object", """
            back = IllegalStateException
            back = IllegalStateException
            count 0 = 0
            """);
        Due.run("there is none, behind a refused event", "event 2 0 0 0 = 0\n back = IllegalStateException");
        Due.run("there is one, then none", """
            event 5 0 7 0 = 1
            back = done
            back = IllegalStateException
            event 5 0 8 0 = 1
            money 0 1 = 8
            back = done
            back = IllegalStateException
            """);
        Due.run("sixty taken back, then none", Due.each(1, 60, "event 5 0 1 0 = 1")
            + Due.each(1, 60, "back = done") + """
            back = IllegalStateException
            count 0 = 0
            event 5 0 2 0 = 1
            money 0 1 = 2
            """);
    }
}

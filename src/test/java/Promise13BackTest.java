/** Promise 13: back. */
public final class Promise13BackTest {
    public static void main(String[] args) {
        Due.run("the latest event of each kind is taken back", """
            back = IllegalStateException
            event 0 0 1 3 = 1
            event 1 0 4 0 = 1
            back = done
            where 0 1 = 3
            event 3 0 1 1 = 1
            event 4 0 0 0 = 1
            event 2 0 0 0 = 1
            back = done
            stock 3 1 = 1
            order 0 0 = 1
            back = done
            order 0 0 = 0
            order 0 3 = 1
            event 4 0 0 0 = 1        # it may be given again
            back = done
            back = done
            order 0 0 = NoSuchElementException
            event 3 0 2 5 = 1        # it may be told again
            order 0 2 = 5
            event 5 0 7 0 = 1
            back = done
            money 0 2 = 0
            event 6 0 1 9 = 1
            event 6 0 1 5 = 1
            back = done
            way 0 1 = 9
            back = done
            way 0 1 = -1
            back = done
            back = done
            count 0 = 0
            stock -1 -1 = 0
            back = IllegalStateException
            """);
        Due.run("refused ones are not in the row", """
            event 5 0 7 0 = 1
            event 2 0 0 0 = 0
            back = done
            count 0 = 0
            count 1 = 1
            back = IllegalStateException
            """);
        Due.run("all sixty", Due.each(1, 60, "event 5 0 1 0 = 1") + Due.each(1, 60, "back = done")
            + "back = IllegalStateException\n event 5 0 2 0 = 1\n money 0 1 = 2");
        Due.end();
    }
}

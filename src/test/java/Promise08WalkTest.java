/** Promise 8: walk. */
public final class Promise08WalkTest {
    public static void main(String[] args) {
        Due.run("in any order, to the last one alone", """
            event 3 2 4 0 = 1
            walk 2 5 = 0             # none
            event 0 0 0 4 = 1
            event 0 1 0 6 = 1
            event 0 2 0 6 = 1
            event 0 3 0 9 = 1
            walk 2 5 = 0             # none is given
            event 4 0 2 0 = 1
            walk 2 4 = 0
            walk 2 5 = -1
            event 6 4 5 10 = 1
            event 6 5 6 1 = 1
            walk 2 5 = 10
            event 4 1 2 0 = 1
            walk 2 5 = 12            # 6 first, then back through 5
            walk 2 4 = 11
            event 4 2 2 0 = 1
            walk 2 5 = 12            # two at one place
            event 4 3 2 0 = 1
            walk 2 5 = -1            # 9 can't be reached
            event 6 4 9 3 = 1
            walk 2 5 = 15
            walk 2 9 = 14
            walk 2 4 = 17            # 9, 4, 5, 6
            walk 2 0 = -1
            event 2 3 0 0 = 1
            walk 2 5 = 12            # gone, and the order is full
            event 0 3 0 8 = 1
            walk 2 5 = 12            # another one
            event 1 0 5 0 = 1
            walk 2 5 = 1
            where 0 1 = -1           # asked of a time before the gifts
            walk 2 5 = 1
            back = done
            walk 2 5 = 12
            """);
        Due.run("four and five places", Due.each(0, 5, "event 0 %d 1 %d = 1") + "event 3 0 6 1 = 1\n"
            + Due.each(0, 3, "event 4 %d 0 0 = 1") + """
            walk 0 0 = -1
            event 6 0 1 1 = 1
            event 6 1 2 2 = 1
            event 6 2 3 4 = 1
            walk 0 0 = 7
            walk 0 1 = 8
            walk 0 3 = 7
            walk 0 9 = -1
            event 4 4 0 0 = 1
            walk 0 0 = -2            # asked before what can be reached
            event 6 3 4 8 = 1
            walk 0 0 = -2
            walk 0 9 = -2
            event 1 4 3 0 = 1
            walk 0 0 = 7
            """);
        Due.run("outside the ranges", """
            event 3 0 1 0 = 1
            walk 1 0 = NoSuchElementException
            walk -1 0 = NoSuchElementException
            walk 10 0 = NoSuchElementException
            walk 0 -1 = IllegalArgumentException
            walk 0 10 = IllegalArgumentException
            walk 1 10 = NoSuchElementException       # the place is asked behind
            walk 2147483647 -2147483648 = NoSuchElementException
            walk 0 2147483647 = IllegalArgumentException
            """);
        Due.end();
    }
}

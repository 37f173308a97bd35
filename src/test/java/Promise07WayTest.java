/** Promise 7: way. */
public final class Promise07WayTest {
    public static void main(String[] args) {
        Due.run("shortest, both directions, the latest counts", """
            way 0 0 = 0
            way 9 9 = 0
            way 0 9 = -1
            event 6 0 9 50 = 1
            way 0 9 = 50
            way 9 0 = 50
            event 6 0 4 20 = 1
            event 6 4 9 20 = 1
            way 0 9 = 40
            way 9 0 = 40
            way 4 4 = 0
            event 6 9 4 99 = 1       # told again from its other place
            way 0 9 = 50
            way 4 9 = 70
            event 6 4 9 1 = 1
            way 9 0 = 21
            back = done
            way 0 9 = 50
            way 3 0 = -1
            event 6 3 2 1 = 1
            way 3 2 = 1
            way 3 0 = -1
            """);
        Due.run("the longest way", """
            event 6 0 1 99 = 1
            event 6 1 2 99 = 1
            event 6 2 3 99 = 1
            event 6 3 4 99 = 1
            event 6 4 5 99 = 1
            event 6 5 6 99 = 1
            event 6 6 7 99 = 1
            event 6 7 8 99 = 1
            event 6 8 9 99 = 1
            way 0 9 = 891
            way 9 0 = 891
            """);
        Due.run("outside the ranges", """
            way -1 0 = IllegalArgumentException
            way 10 0 = IllegalArgumentException
            way 0 -1 = IllegalArgumentException
            way 0 10 = IllegalArgumentException
            way 10 10 = IllegalArgumentException
            way -2147483648 2147483647 = IllegalArgumentException
            """);
        Due.end();
    }
}

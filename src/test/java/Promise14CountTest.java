/** Promise 14: count. */
public final class Promise14CountTest {
    public static void main(String[] args) {
        Due.run("each what", """
            event 0 0 1 3 = 1
            event 0 1 1 3 = 1
            event 0 1 1 3 = 0
            event 3 0 1 1 = 1
            event 3 9 2 1 = 1
            event 3 4 1 2 = 1
            event 4 0 0 0 = 1
            event 4 1 9 0 = 1
            event 4 1 9 0 = 0
            event 6 0 0 1 = 0
            event 6 0 1 1 = 1
            event 6 8 9 1 = 1
            event 7 0 0 0 = IllegalArgumentException
            count 0 = 9
            count 1 = 3
            count 2 = 2
            count 3 = 3
            count 4 = 1
            count 5 = 2
            event 2 0 0 0 = 1
            count 2 = 1
            count 4 = 1              # full, though its unit is gone
            event 0 2 1 8 = 1
            event 4 2 9 0 = 1
            count 4 = 2
            back = done
            count 4 = 1
            back = done
            needs 0 = 2
            explained 0 = 5
            count 1 = 3              # trying refuses nothing
            """);
        Due.run("a link told again is one link", """
            event 6 0 1 1 = 1
            event 6 0 1 2 = 1
            event 6 1 0 3 = 1
            count 5 = 1
            count 0 = 3
            back = done
            count 5 = 1
            """);
        Due.run("another what", """
            count -1 = -1
            count 6 = -1
            count 2147483647 = -1
            count -2147483648 = -1
            """);
        Due.end();
    }
}

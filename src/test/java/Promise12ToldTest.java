/** Promise 12: told. */
public final class Promise12ToldTest {
    public static void main(String[] args) {
        Due.run("kind, a, b, c", """
            event 0 19 5 9 = 1
            event 0 19 5 9 = 0       # a refused one is not kept
            event 5 3 -10000 0 = 1
            event 6 4 7 99 = 1
            told 0 0 = 0
            told 0 1 = 19
            told 0 2 = 5
            told 0 3 = 9
            told 1 0 = 5
            told 1 1 = 3
            told 1 2 = -10000
            told 1 3 = 0
            told 2 0 = 6
            told 2 1 = 4
            told 2 2 = 7
            told 2 3 = 99
            """);
        Due.run("the sixtieth", Due.each(1, 60, "event 5 0 %d 0 = 1") + """
            told 59 2 = 60
            told 59 3 = 0
            told 60 0 = NoSuchElementException
            """);
        Due.run("outside the ranges", """
            told 0 0 = NoSuchElementException
            event 5 0 1 0 = 1
            told 1 0 = NoSuchElementException
            told -1 0 = NoSuchElementException
            told 0 -1 = IllegalArgumentException
            told 0 4 = IllegalArgumentException
            told 1 4 = NoSuchElementException
            told -1 -1 = NoSuchElementException
            told 2147483647 0 = NoSuchElementException
            told 0 2147483647 = IllegalArgumentException
            """);
        Due.end();
    }
}

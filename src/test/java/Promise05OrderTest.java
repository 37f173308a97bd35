/** Promise 5: order. */
public final class Promise05OrderTest {
    public static void main(String[] args) {
        Due.run("an order from told to full, and its units gone", """
            event 3 9 2 5 = 1
            order 9 0 = 0
            order 9 1 = 0
            order 9 2 = 5
            order 9 3 = 0
            event 0 0 5 0 = 1
            event 0 1 5 0 = 1
            event 0 2 5 0 = 1
            event 0 3 4 0 = 1
            order 9 3 = 3
            event 4 0 9 0 = 1
            order 9 0 = 0
            order 9 1 = 1
            order 9 3 = 2
            event 3 0 1 5 = 1
            order 0 3 = 2
            event 4 1 9 0 = 1
            order 9 0 = 1
            order 9 1 = 2
            order 9 3 = 1
            event 2 0 0 0 = 1
            order 9 0 = 1        # given to it ever, gone or not
            order 9 1 = 2
            order 9 3 = 1
            event 0 0 5 0 = 1
            order 9 1 = 2
            order 9 3 = 2
            order 0 0 = 0
            order 0 2 = 5
            """);
        Due.run("outside the ranges", """
            event 3 0 1 0 = 1
            order 1 0 = NoSuchElementException
            order -1 0 = NoSuchElementException
            order 10 0 = NoSuchElementException
            order 2147483647 0 = NoSuchElementException
            order 0 -1 = IllegalArgumentException
            order 0 4 = IllegalArgumentException
            order 1 4 = NoSuchElementException
            order -1 -1 = NoSuchElementException
            back = done
            order 0 0 = NoSuchElementException
            order 0 4 = NoSuchElementException
            """);
        Due.end();
    }
}

/** Promise 6: promise. */
public final class Promise06PromiseTest {
    public static void main(String[] args) {
        Due.run("the most orders, not the first ones", """
            event 3 0 3 1 = 1
            event 3 1 1 1 = 1
            event 3 2 2 1 = 1
            event 3 3 1 2 = 1
            promise 15 = 0
            event 0 0 1 0 = 1
            event 0 1 1 4 = 1
            event 0 2 1 9 = 1
            promise 1 = 1
            promise 2 = 1
            promise 7 = 2        # orders 1 and 2, though 0 alone takes all
            promise 5 = 1
            promise 15 = 2
            promise 8 = 0
            event 0 3 2 0 = 1
            promise 15 = 3
            promise 0 = 0
            event 4 0 0 0 = 1
            promise 1 = 1        # lacks two, and two are free
            promise 5 = 1
            promise 3 = 1
            event 4 1 1 0 = 1
            promise 2 = 0        # full, left out
            promise 3 = 0
            event 2 2 0 0 = 1
            promise 7 = 0
            """);
        Due.run("six and seven", Due.each(0, 9, "event 3 %d 1 0 = 1") + Due.each(0, 9, "event 0 %d 0 0 = 1") + """
            promise 63 = 6
            promise 1008 = 6
            promise 127 = -1
            promise 1023 = -1
            event 4 0 0 0 = 1
            promise 63 = 5
            promise 127 = -1     # full ones count towards the six
            """);
        Due.run("orders that were not told", """
            event 3 0 1 0 = 1
            event 3 9 1 0 = 1
            promise 513 = 0
            promise 2 = NoSuchElementException
            promise 3 = NoSuchElementException
            promise 1023 = NoSuchElementException   # asked before the six
            promise 1024 = NoSuchElementException
            promise 1025 = NoSuchElementException
            promise -1 = NoSuchElementException
            promise -2147483648 = NoSuchElementException
            promise -2147483647 = NoSuchElementException
            back = done
            promise 512 = NoSuchElementException
            back = done
            promise 1 = NoSuchElementException
            promise 0 = 0
            """);
        Due.end();
    }
}

/** Promise 3: stock. */
public final class Promise03StockTest {
    public static void main(String[] args) {
        Due.run("goods and places", """
            event 0 0 0 0 = 1
            event 0 1 0 0 = 1
            event 0 2 5 0 = 1
            event 0 3 5 9 = 1
            event 0 4 0 9 = 1
            stock 0 0 = 2
            stock 0 5 = 1
            stock 9 5 = 1
            stock 9 0 = 1
            stock 5 0 = 0
            stock 0 1 = 0
            stock 0 -1 = 3
            stock -1 0 = 3
            stock -1 5 = 2
            stock -1 3 = 0
            stock -1 -1 = 5
            event 1 0 9 0 = 1
            stock 0 0 = 1
            stock 9 0 = 2
            event 2 0 0 0 = 1
            stock 9 0 = 1
            stock -1 -1 = 4
            event 0 0 3 4 = 1
            stock 4 3 = 1
            stock -1 0 = 2
            event 3 0 1 3 = 1
            event 4 0 0 0 = 1
            stock 4 3 = 1         # given ones are still there
            back = done
            back = done
            back = done
            stock 4 3 = 0
            """);
        Due.run("all twenty", Due.each(0, 19, "event 0 %d 2 %r = 1") + "stock -1 2 = 20\n stock 7 -1 = 2");
        Due.run("outside the ranges", """
            stock -2 0 = IllegalArgumentException
            stock 10 0 = IllegalArgumentException
            stock 0 -2 = IllegalArgumentException
            stock 0 6 = IllegalArgumentException
            stock -1 6 = IllegalArgumentException
            stock 10 -1 = IllegalArgumentException
            stock -2147483648 2147483647 = IllegalArgumentException
            """);
        Due.end();
    }
}

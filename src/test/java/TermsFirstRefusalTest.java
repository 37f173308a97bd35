/** Terms: 'REFUSALS, the first that holds', wherever two hold, and what stands before an answer of -1, -2 or 0. */
public final class TermsFirstRefusalTest {
    public static void main(String[] args) {
        Due.run("event: a number outside before no room", Due.each(1, 60, "event 5 0 1 0 = 1") + """
            event 7 0 0 0 = IllegalArgumentException
            event 0 20 0 0 = IllegalArgumentException
            event 1 0 0 1 = IllegalArgumentException
            event 5 0 0 0 = IllegalArgumentException
            event 6 0 0 0 = IllegalArgumentException
            event 5 0 1 0 = UnsupportedOperationException
            """);
        Due.run("event: no room before refused (0)", Due.each(1, 60, "event 5 0 1 0 = 1") + """
            event 1 0 0 0 = UnsupportedOperationException
            event 2 0 0 0 = UnsupportedOperationException
            event 4 0 0 0 = UnsupportedOperationException
            event 6 0 0 1 = UnsupportedOperationException
            count 1 = 0
            """);
        Due.run("event: a number outside before refused (0)", """
            event 6 1 1 0 = IllegalArgumentException
            event 1 0 10 0 = IllegalArgumentException
            event 2 0 0 1 = IllegalArgumentException
            event 4 0 10 0 = IllegalArgumentException
            count 1 = 0
            """);
        Due.run("where: not so many events before no such unit", """
            where 20 1 = NoSuchElementException
            where -1 -1 = NoSuchElementException
            where 20 0 = IllegalArgumentException
            """);
        Due.run("money: not so many events before no such owner", """
            money 4 1 = NoSuchElementException
            money -1 -1 = NoSuchElementException
            money 4 0 = IllegalArgumentException
            """);
        Due.run("order: not told before another what", """
            order 0 4 = NoSuchElementException
            order 10 -1 = NoSuchElementException
            order -1 -1 = NoSuchElementException
            event 3 0 1 0 = 1
            order 0 4 = IllegalArgumentException
            """);
        Due.run("told: no such event before another what", """
            told 0 4 = NoSuchElementException
            told -1 -1 = NoSuchElementException
            event 5 0 1 0 = 1
            told 1 4 = NoSuchElementException
            told 0 4 = IllegalArgumentException
            """);
        Due.run("walk: not told before no such place", """
            walk 0 10 = NoSuchElementException
            walk 10 10 = NoSuchElementException
            walk -1 -1 = NoSuchElementException
            event 3 0 1 0 = 1
            walk 0 10 = IllegalArgumentException
            """);
        Due.run("walk: no such place before -1 and -2", Due.each(0, 4, "event 0 %d 0 %d = 1") + """
            event 3 0 9 0 = 1
            event 4 0 0 0 = 1
            walk 0 9 = -1
            walk 0 10 = IllegalArgumentException
            """ + Due.each(1, 4, "event 4 %d 0 0 = 1") + """
            walk 0 9 = -2
            walk 0 10 = IllegalArgumentException
            walk 0 -1 = IllegalArgumentException
            """);
        Due.run("promise: not told before more than six (-1)", Due.each(0, 6, "event 3 %d 1 0 = 1") + """
            promise 127 = -1
            promise 255 = NoSuchElementException
            promise 1151 = NoSuchElementException    # 127 and an order that there is not
            promise -1 = NoSuchElementException
            """);
        Due.end();
    }
}

/** Promise 1: a new object. */
public final class Promise01NewObjectTest {
    public static void main(String[] args) {
        noEvents();
        nothingInTheHouse();
        noOrders();
        noLinks();
        objectsOfTheirOwn();
        Due.end();
    }

    private static void noEvents() {
        Due.run("No events", """
            count 0 = 0
            count 1 = 0
            needs 0 = NoSuchElementException
            explained 0 = NoSuchElementException
            told 0 0 = NoSuchElementException
            where 0 1 = NoSuchElementException
            money 0 1 = NoSuchElementException
            back = IllegalStateException
            """);
    }

    private static void nothingInTheHouse() {
        Due.run("No events: no units, no money", Due.each(0, 19, "where %d 0 = -1") + Due.each(-1, 9, "stock %d -1 = 0")
            + Due.each(-1, 5, "stock -1 %d = 0") + Due.each(0, 3, "money %d 0 = 0") + "count 2 = 0");
    }

    private static void noOrders() {
        Due.run("No events: no orders", Due.each(0, 9, """
            order %d 0 = NoSuchElementException
            walk %d 0 = NoSuchElementException
            """) + """
            promise 0 = 0
            promise 1 = NoSuchElementException
            promise 512 = NoSuchElementException
            count 3 = 0
            count 4 = 0
            """);
    }

    private static void noLinks() {
        Due.run("No events: no links", Due.each(0, 9, "way %d %d = 0") + Due.each(1, 9, "way 0 %d = -1")
            + "count 5 = 0");
    }

    private static void objectsOfTheirOwn() {
        PlainWarehouse first = new PlainWarehouse();
        PlainWarehouse second = new PlainWarehouse();
        Due.same("first event", first.event(0, 0, 0, 5), 1);
        Due.same("first refused", first.event(0, 0, 0, 5), 0);
        Due.same("events of the second", second.count(0), 0);
        Due.same("refused ones of the second", second.count(1), 0);
        Due.same("units of the second", second.stock(-1, -1), 0);
        Due.same("second event", second.event(0, 0, 0, 7), 1);
        Due.same("place in the first", first.where(0, 1), 5);
        Due.same("place in the second", second.where(0, 1), 7);
    }
}

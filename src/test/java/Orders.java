/** Runs of calls that tell orders, each of one piece of good 0. */
final class Orders {
    static final String ALL = Due.each(0, 9, "event 3 %d 1 0 = 1");

    private Orders() {
    }

    static String allBut(int order) {
        return Due.each(0, order - 1, "event 3 %d 1 0 = 1") + Due.each(order + 1, 9, "event 3 %d 1 0 = 1");
    }
}

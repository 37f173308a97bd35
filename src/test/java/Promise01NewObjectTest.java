/** Promise 1: a new object has no events. */
public final class Promise01NewObjectTest {
    public static void main(String[] args) {
        Due.run("nothing is there", """
            count 0 = 0
            count 1 = 0
            count 2 = 0
            count 3 = 0
            count 4 = 0
            count 5 = 0
            stock -1 -1 = 0
            where 0 0 = -1
            money 0 0 = 0
            promise 0 = 0
            way 0 1 = -1
            needs 0 = NoSuchElementException
            told 0 0 = NoSuchElementException
            back = IllegalStateException
            """);
        Due.run("an object of its own (first)", "event 0 0 0 0 = 1\n event 5 0 7 0 = 1\n count 0 = 2");
        Due.run("an object of its own (second)", "count 0 = 0\n where 0 0 = -1\n event 0 0 0 0 = 1");
        Due.end();
    }
}

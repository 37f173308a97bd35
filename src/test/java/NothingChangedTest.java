import java.util.ArrayList;
import java.util.List;

/** A call that throws, an event that is refused, and a question change nothing: all answers are as they were. */
public final class NothingChangedTest {
    /** Twenty-one events: units given, gone and come again, orders open and full, links told again, payments. */
    private static final String[] ROW = {
        "event 0 0 1 0", "event 0 1 1 3", "event 0 2 2 3", "event 0 19 5 9", "event 3 0 2 1", "event 3 1 1 2",
        "event 3 9 3 5", "event 4 0 0 0", "event 4 1 0 0", "event 4 19 9 0", "event 2 0 0 0", "event 0 0 2 4",
        "event 1 2 7 0", "event 6 0 3 10", "event 6 3 9 20", "event 6 0 3 7", "event 6 8 7 99", "event 5 0 -10000 0",
        "event 5 3 10000 0", "event 5 0 1 0", "event 4 2 1 0",
    };

    private static final String[] THROWING = {
        "event -1 0 0 0", "event 7 0 0 0", "event 0 20 0 0", "event 0 3 6 0", "event 0 3 0 10", "event 1 1 10 0",
        "event 1 1 5 1", "event 2 1 1 0", "event 2 1 0 1", "event 3 10 1 0", "event 3 2 0 0", "event 3 2 10 0",
        "event 3 2 1 6", "event 4 0 1 1", "event 4 20 1 0", "event 4 0 10 0", "event 5 4 1 0", "event 5 0 0 0",
        "event 5 0 10001 0", "event 5 0 1 1", "event 6 10 0 1", "event 6 0 10 1", "event 6 0 3 0", "event 6 0 3 100",
        "stock -2 0", "stock 10 0", "stock 0 -2", "stock 0 6", "where 0 22", "where 0 -1", "where 20 3", "where -1 0",
        "order 2 0", "order 10 0", "order -1 0", "order 0 4", "order 0 -1", "promise 4", "promise 1024", "promise -1",
        "way -1 0", "way 10 0", "way 0 -1", "way 0 10", "walk 2 0", "walk 10 0", "walk 0 10", "walk 0 -1",
        "money 0 22", "money 0 -1", "money 4 3", "money -1 0", "needs 21", "needs -1", "explained 21", "explained -1",
        "told 21 0", "told -1 0", "told 0 4", "told 0 -1",
    };

    private static final String[] REFUSED = {
        "event 0 1 0 0", "event 1 3 0 0", "event 2 3 0 0", "event 2 19 0 0", "event 3 0 9 0", "event 4 3 9 0",
        "event 4 19 9 0", "event 4 0 9 0", "event 4 0 2 0", "event 4 0 1 0", "event 6 4 4 9",
    };

    private static final String[] QUESTIONS = {
        "stock -1 -1", "stock 3 1", "where 0 0", "where 0 11", "where 19 3", "order 0 0", "order 9 3", "promise 0",
        "promise 515", "way 0 9", "way 4 4", "walk 0 0", "walk 9 4", "money 0 0", "money 0 18", "needs 0", "needs 4",
        "needs 20", "explained 0", "explained 20", "told 0 0", "told 20 3", "count 0", "count 1", "count 5", "count 6",
    };

    public static void main(String[] args) {
        List<String> before = answers(filled());
        for (String call : THROWING) {
            PlainWarehouse house = filled();
            Due.same(call, Due.answerTo(house, call).endsWith("Exception"), true);
            Due.same("behind " + call, answers(house), before);
        }
        for (String call : REFUSED) {
            PlainWarehouse house = filled();
            Due.same(call, Due.answerTo(house, call), "0");
            Due.same("refused ones behind " + call, house.count(1), 1);
            Due.same("behind " + call, answers(house), before);
        }
        for (String call : QUESTIONS) {
            PlainWarehouse house = filled();
            Due.same(call + " asked twice", Due.answerTo(house, call), Due.answerTo(house, call));
            Due.same("behind " + call, answers(house), before);
        }
        backWithoutEvents();
        eventWithoutRoom();
        Due.end();
    }

    private static void backWithoutEvents() {
        PlainWarehouse house = new PlainWarehouse();
        List<String> before = answers(house);
        Due.same("back", Due.answer(house, "back"), "IllegalStateException");
        Due.same("behind back without events", answers(house), before);
        Due.same("an event behind it", house.event(0, 0, 0, 0), 1);
    }

    /** Sixty events, asked about the latest ones alone: one object has 512 calls. */
    private static void eventWithoutRoom() {
        Due.run("behind an event without room", Due.each(1, 60, "event 5 0 %d 0 = 1") + """
            event 0 0 0 0 = UnsupportedOperationException
            event 1 0 0 0 = UnsupportedOperationException
            event 3 0 1 0 = UnsupportedOperationException
            event 5 0 1 0 = UnsupportedOperationException
            event 6 0 1 1 = UnsupportedOperationException
            count 0 = 60
            count 1 = 0
            count 2 = 0
            count 3 = 0
            count 5 = 0
            money 0 60 = 1830
            told 59 2 = 60
            told 60 0 = NoSuchElementException
            """);
    }

    private static PlainWarehouse filled() {
        PlainWarehouse house = new PlainWarehouse();
        for (String event : ROW) {
            Due.same(event, Due.answerTo(house, event), "1");
        }
        return house;
    }

    /** What an object answers now to some 330 questions; count(1) is not among them. */
    private static List<String> answers(PlainWarehouse house) {
        int all = house.count(0);
        List<String> answers = new ArrayList<>();
        ask(answers, house, Due.each(0, 19, "where %d " + all));
        for (int i = -1; i <= 9; i++) {
            ask(answers, house, Due.each(-1, 5, "stock " + i + " %d"));
        }
        for (int i = 0; i <= 9; i++) {
            ask(answers, house, Due.each(0, 3, "order " + i + " %d"));
            ask(answers, house, Due.each(i, 9, "way " + i + " %d"));
            ask(answers, house, "walk " + i + " 4\n promise " + (1 << i));
        }
        for (int i = 0; i < all; i++) {
            ask(answers, house, Due.each(0, 3, "told " + i + " %d"));
            ask(answers, house, "needs " + i + "\n explained " + i);
        }
        ask(answers, house, Due.each(0, 3, "money %d " + all) + Due.each(2, 5, "count %d") + "promise 515");
        return answers;
    }

    private static void ask(List<String> answers, PlainWarehouse house, String calls) {
        for (String call : calls.trim().split("\n")) {
            answers.add(Due.answerTo(house, call));
        }
    }
}

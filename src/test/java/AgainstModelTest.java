import java.util.Arrays;
import java.util.List;
import java.util.Random;

/** Long runs of calls, the same ones each time, on the class and on the model beside it. */
public final class AgainstModelTest {
    private static final int RUNS = 400;
    private static final int CALLS = 512;
    private static final String NO_ELEMENT = Due.NO_ELEMENT;
    private static final String WRONG_NUMBER = Due.WRONG_NUMBER;

    private final Random random;
    private final int goods;
    private final int places;
    private final PlainWarehouse house = new PlainWarehouse();
    private final Model model = new Model();

    /** Few goods and places make events that have to do with one another. */
    private AgainstModelTest(int run) {
        random = new Random(run);
        goods = 1 + run % 6;
        places = 2 + run % 9;
    }

    public static void main(String[] args) {
        for (int run = 0; run < RUNS; run++) {
            AgainstModelTest test = new AgainstModelTest(run);
            for (int call = 0; call < CALLS; call++) {
                test.step();
            }
        }
        Due.end();
    }

    private void step() {
        switch (random.nextInt(16)) {
            case 0: ask("stock", number(-2, 10), number(-2, 6)); break;
            case 1: ask("where", number(-1, 20), behind()); break;
            case 2: ask("order", number(-1, 10), number(-1, 4)); break;
            case 3: ask("promise", set()); break;
            case 4: ask("way", number(-1, 10), number(-1, 10)); break;
            case 5: ask("walk", number(-1, 10), number(-1, 10)); break;
            case 6: ask("money", number(-1, 4), behind()); break;
            case 7: ask("needs", behind()); break;
            case 8: ask("explained", behind()); break;
            case 9: ask("told", behind(), number(-1, 4)); break;
            case 10: ask("count", number(-1, 6)); break;
            case 11: takeBack(); break;
            default: tell();
        }
    }

    private void ask(String name, Object... numbers) {
        String due = due(name, (Integer) numbers[0], numbers.length > 1 ? (Integer) numbers[1] : 0);
        Due.same(name + List.of(numbers), Due.answer(house, name, numbers), due);
    }

    private String due(String name, int x, int y) {
        int all = model.events.size();
        switch (name) {
            case "stock": return in(x, -1, 9) && in(y, -1, 5) ? "" + model.stock(x, y) : WRONG_NUMBER;
            case "where": return !in(y, 0, all) ? NO_ELEMENT : !in(x, 0, 19) ? WRONG_NUMBER : "" + model.where(x, y);
            case "order": return model.pieces(x) == 0 ? NO_ELEMENT : !in(y, 0, 3) ? WRONG_NUMBER : "" + order(x, y);
            case "promise": return allTold(x) ? "" + model.promise(x) : NO_ELEMENT;
            case "way": return in(x, 0, 9) && in(y, 0, 9) ? "" + model.way(x, y) : WRONG_NUMBER;
            case "walk":
                return model.pieces(x) == 0 ? NO_ELEMENT : !in(y, 0, 9) ? WRONG_NUMBER : "" + model.walk(x, y);
            case "money": return !in(y, 0, all) ? NO_ELEMENT : !in(x, 0, 3) ? WRONG_NUMBER : "" + model.money(x, y);
            case "needs": return in(x, 0, all - 1) ? "" + model.refusedWithout(x).size() : NO_ELEMENT;
            case "explained": return in(x, 0, all - 1) ? "" + explained(x) : NO_ELEMENT;
            case "told":
                return !in(x, 0, all - 1) ? NO_ELEMENT : !in(y, 0, 3) ? WRONG_NUMBER : "" + model.events.get(x)[y];
            default: return "" + model.count(x);
        }
    }

    private int order(int order, int what) {
        int good = model.goodWanted(order);
        return new int[] {model.isFull(order) ? 1 : 0, model.got(order), good, model.free(good)}[what];
    }

    private int explained(int i) {
        List<Integer> refused = model.refusedWithout(i);
        return refused.isEmpty() ? -1 : refused.get(0);
    }

    private boolean allTold(int set) {
        for (int order = 0; order < 32; order++) {
            if ((set >>> order & 1) == 1 && model.pieces(order) == 0) {
                return false;
            }
        }
        return true;
    }

    private void takeBack() {
        boolean some = !model.events.isEmpty();
        Due.same("back", Due.answer(house, "back"), some ? "done" : "IllegalStateException");
        if (some) {
            model.events.remove(model.events.size() - 1);
        }
    }

    private void tell() {
        int[] e = event();
        if (random.nextInt(10) == 0) {
            e[random.nextInt(4)] += random.nextBoolean() ? number(-2, 2) : random.nextInt();
        }
        Due.same("event" + Arrays.toString(e), Due.answer(house, "event", e[0], e[1], e[2], e[3]), dueOfEvent(e));
    }

    private String dueOfEvent(int[] e) {
        if (!Model.isInRange(e)) {
            return WRONG_NUMBER;
        }
        return model.events.size() >= 60 ? Due.NO_ROOM : model.take(e) ? "1" : "0";
    }

    private int[] event() {
        int unit = random.nextInt(20);
        switch (random.nextInt(12)) {
            case 0: case 1: case 2: return new int[] {0, unit, random.nextInt(goods), random.nextInt(places)};
            case 3: return new int[] {1, unit, random.nextInt(places), 0};
            case 4: return new int[] {2, unit, 0, 0};
            case 5: case 6: return new int[] {3, random.nextInt(10), number(1, 6), random.nextInt(goods)};
            case 7: case 8: case 9: return new int[] {4, unit, random.nextInt(10), 0};
            case 10: return new int[] {5, random.nextInt(4), number(1, 10000) * (random.nextBoolean() ? 1 : -1), 0};
            default: return new int[] {6, random.nextInt(places), random.nextInt(places), number(1, 99)};
        }
    }

    /** Mostly sets of orders that were told, with more than six at times. */
    private int set() {
        int set = random.nextInt(4) == 0 ? random.nextInt() : random.nextInt(1024);
        for (int order = 0; order < 10 && random.nextInt(8) > 0; order++) {
            set &= model.pieces(order) > 0 ? -1 : ~(1 << order);
        }
        return set;
    }

    private int behind() {
        return number(-1, model.events.size() + 1);
    }

    private int number(int least, int most) {
        return least + random.nextInt(most - least + 1);
    }

    private static boolean in(int number, int least, int most) {
        return number >= least && number <= most;
    }
}

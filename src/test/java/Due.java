import java.lang.reflect.InvocationTargetException;
import java.lang.reflect.Method;

/**
 * Runs of calls written as text, each on a new PlainWarehouse: a line is "name number.. = answer", and the answer
 * is a number, "done" for a call without one, or the name of the exception that is due. "#" starts a remark.
 * A run's title names the document's sentence that it is the test of, and the reading where it leaves room.
 */
final class Due {
    static final String NO_ELEMENT = "NoSuchElementException";
    static final String WRONG_NUMBER = "IllegalArgumentException";
    static final String NO_ROOM = "UnsupportedOperationException";

    /** What an object answers behind so many calls is free, so no run asks more. */
    private static final int MOST_CALLS = 512;

    private static int wrong = 0;
    private static int asked = 0;

    private Due() {
    }

    /** A run of calls on a new object. */
    static void run(String title, String calls) {
        PlainWarehouse house = new PlainWarehouse();
        int before = asked;
        for (String line : calls.split("\n")) {
            String call = line.replaceFirst("#.*", "").trim();
            if (!call.isEmpty()) {
                ask(title, house, call);
            }
        }
        if (asked - before > MOST_CALLS) {
            throw new AssertionError(title + ": more than 512 calls of one object");
        }
    }

    /** As many calls as there are numbers from first to last; "%d" stands for the number, "%r" for its rest by ten. */
    static String each(int first, int last, String call) {
        StringBuilder calls = new StringBuilder();
        for (int i = first; i <= last; i++) {
            calls.append(call.replace("%d", "" + i).replace("%r", "" + i % 10)).append("\n");
        }
        return calls.toString();
    }

    /** A call with each number of a range, "%d", and with those outside it; a new object for each, behind a run. */
    static void range(String title, String before, String call, int least, int most, String due, String outside) {
        for (int number = least; number <= most; number++) {
            run(title, before + each(number, number, call + " = " + due));
        }
        outside(title, before, call, least, most, outside);
    }

    /** The one below a range, the one above it, and int's ends. */
    static void outside(String title, String before, String call, int least, int most, String due) {
        for (int number : new int[] {least - 1, most + 1, Integer.MIN_VALUE, Integer.MAX_VALUE}) {
            run(title, before + call.replace("%d", "" + number) + " = " + due);
        }
    }

    static void same(String what, Object got, Object due) {
        asked++;
        if (!got.equals(due)) {
            wrong++;
            System.out.println(what + " answered " + got + ", due is " + due);
        }
    }

    /** Ends the test with exit code 1 if an answer was wrong, or if nothing was asked. */
    static void end() {
        System.out.println(asked + " calls, " + wrong + " wrong");
        if (wrong > 0 || asked == 0) {
            System.exit(1);
        }
    }

    /** What the call answers, as text: a number, "done", or the name of what it throws. */
    static String answer(PlainWarehouse house, String name, Object... numbers) {
        try {
            Object got = method(name).invoke(house, numbers);
            return got == null ? "done" : got.toString();
        } catch (InvocationTargetException e) {
            return e.getCause().getClass().getSimpleName();
        } catch (IllegalAccessException e) {
            throw new AssertionError(e);
        }
    }

    /** The same of a call as text, "name number..". */
    static String answerTo(PlainWarehouse house, String text) {
        String[] call = text.trim().split(" +");
        Object[] numbers = new Object[call.length - 1];
        for (int i = 0; i < numbers.length; i++) {
            numbers[i] = Integer.parseInt(call[i + 1]);
        }
        return answer(house, call[0], numbers);
    }

    private static void ask(String title, PlainWarehouse house, String line) {
        int split = line.indexOf('=');
        String call = line.substring(0, split).trim();
        same(title + ": " + call, answerTo(house, call), line.substring(split + 1).trim());
    }

    private static Method method(String name) {
        for (Method method : PlainWarehouse.class.getMethods()) {
            if (method.getName().equals(name)) {
                return method;
            }
        }
        throw new AssertionError("no method " + name);
    }
}

import java.io.IOException;
import java.lang.reflect.Method;
import java.nio.file.Files;
import java.nio.file.Path;
import java.util.ArrayList;
import java.util.List;
import java.util.Set;
import java.util.TreeSet;
import java.util.regex.MatchResult;
import java.util.regex.Pattern;
import java.util.stream.Collectors;

/** What README.md shows is so: the example's answers, the events' ranges, what the calls throw, the names in it. */
public final class ReadmeTest {
    private static final String EXAMPLE_CALL = "house\\.(\\w+)\\((.*)\\); +// (-?\\d+|done|\\w+Exception): .+";
    private static final String EVENT_ROW = "^\\| (\\d) \\| \\w+ \\| (.+) \\| (.+) \\| (.+) \\|$";
    private static final String CALL_ROW = "^\\| `(\\w+)\\((.*)\\)` \\| .+ \\| (.*)\\|$";

    private static String readme;

    public static void main(String[] args) throws IOException {
        readme = Files.readString(Path.of("README.md"));
        example();
        events();
        calls();
        names();
        Due.end();
    }

    /** Each line answers as it says, and every call of the face is shown. */
    private static void example() {
        StringBuilder run = new StringBuilder();
        Set<String> shown = new TreeSet<>();
        for (String line : readme.split("```java\n")[1].split("```")[0].split("\n")) {
            if (line.isEmpty() || line.equals("PlainWarehouse house = new PlainWarehouse();")) {
                continue;
            }
            List<MatchResult> calls = find(EXAMPLE_CALL, line);
            Due.same("the README's line is a call with its answer: " + line, calls.size(), 1);
            for (MatchResult call : calls) {
                shown.add(call.group(1));
                run.append(call.group(1)).append(" ").append(call.group(2).replace(",", ""));
                run.append(" = ").append(call.group(3)).append("\n");
            }
        }
        Due.run("the README's example", run.toString());
        Due.same("the calls that the README's example shows", shown, faceNames());
    }

    /** An event with the ends of each range is taken or refused, one beyond them is a wrong number. */
    private static void events() {
        List<MatchResult> rows = find(EVENT_ROW, readme);
        Due.same("the README's kinds of events", rows.size(), 7);
        for (MatchResult row : rows) {
            Range[] ranges = {new Range(row.group(2)), new Range(row.group(3)), new Range(row.group(4))};
            for (int i = 0; i < ranges.length; i++) {
                isWrong(row.group(1), ranges, i, ranges[i].least - 1, true);
                isWrong(row.group(1), ranges, i, ranges[i].least, false);
                isWrong(row.group(1), ranges, i, ranges[i].most, false);
                isWrong(row.group(1), ranges, i, ranges[i].most + 1, true);
                if (ranges[i].least < 0) {
                    isWrong(row.group(1), ranges, i, 0, ranges[i].isNotZero);
                }
            }
        }
    }

    private static void isWrong(String kind, Range[] ranges, int changed, int number, boolean due) {
        StringBuilder call = new StringBuilder("event ").append(kind);
        for (int i = 0; i < ranges.length; i++) {
            call.append(" ").append(i == changed ? number : ranges[i].least);
        }
        String answer = Due.answerTo(new PlainWarehouse(), call.toString());
        Due.same("by the README " + call + " throws, and", answer.equals(Due.WRONG_NUMBER), due);
    }

    private static void calls() {
        Set<String> shown = new TreeSet<>();
        for (MatchResult row : find(CALL_ROW, readme)) {
            int numbers = row.group(2).isEmpty() ? 0 : row.group(2).split(",").length;
            shown.add(row.group(1) + " " + numbers + " " + row.group(3).trim());
        }
        Set<String> due = new TreeSet<>();
        for (Method method : faceMethods()) {
            due.add(method.getName() + " " + method.getParameterCount() + " " + thrown(method));
        }
        Due.same("the calls of the README with their numbers and what they throw", shown, due);
    }

    /** Each class and path that the README names is there, and each test but those between two promises is named. */
    private static void names() throws IOException {
        String main = Files.readString(Path.of("src/main/java/PlainWarehouse.java"));
        for (MatchResult name : find("`([A-Z]\\w*)`", readme)) {
            boolean isThere = main.contains("static final class " + name.group(1) + " ")
                || Files.exists(Path.of("src/test/java", name.group(1) + ".java"));
            Due.same("the README's class " + name.group(1) + " is there, and", isThere, true);
        }
        for (MatchResult path : find("(?:`|^    )([.\\w]+/[./\\w]+)(?:`|$)", readme)) {
            Due.same("the README's path " + path.group(1), Files.exists(Path.of(path.group(1))), true);
        }
        for (String test : testNames()) {
            boolean isNamed = readme.contains("`" + test + "`") || test.matches("Promise(0[2-9]|1[0-3])\\w+");
            Due.same("the README names " + test + ", and", isNamed, true);
        }
    }

    private static List<MatchResult> find(String pattern, String text) {
        return Pattern.compile(pattern, Pattern.MULTILINE).matcher(text).results().collect(Collectors.toList());
    }

    private static List<Method> faceMethods() {
        List<Method> methods = new ArrayList<>();
        for (Method method : PlainWarehouse.class.getMethods()) {
            if (method.getDeclaringClass() == PlainWarehouse.class) {
                methods.add(method);
            }
        }
        return methods;
    }

    private static Set<String> faceNames() {
        return faceMethods().stream().map(Method::getName).collect(Collectors.toCollection(TreeSet::new));
    }

    private static String thrown(Method method) {
        List<String> names = new ArrayList<>();
        for (Class<?> type : method.getExceptionTypes()) {
            names.add(type.getSimpleName());
        }
        return String.join(", ", names);
    }

    private static Set<String> testNames() throws IOException {
        try (var files = Files.list(Path.of("src/test/java"))) {
            return files.map(file -> file.getFileName().toString())
                .filter(name -> name.endsWith("Test.java"))
                .map(name -> name.replace(".java", ""))
                .collect(Collectors.toCollection(TreeSet::new));
        }
    }

    /** A cell as "name least .. most", with ", not 0" behind it or not, or a number alone. */
    private static final class Range {
        private final int least;
        private final int most;
        private final boolean isNotZero;

        private Range(String cell) {
            isNotZero = cell.endsWith(", not 0");
            String[] ends = cell.replace(", not 0", "").replaceFirst("^[a-z]+ ", "").split(" \\.\\. ");
            least = Integer.parseInt(ends[0]);
            most = Integer.parseInt(ends[ends.length - 1]);
        }
    }
}

import java.io.IOException;
import java.lang.reflect.Field;
import java.lang.reflect.Method;
import java.nio.file.Files;
import java.nio.file.Path;
import java.util.HashMap;
import java.util.Map;
import java.util.Set;
import java.util.TreeSet;
import java.util.regex.Matcher;
import java.util.regex.Pattern;
import java.util.stream.Stream;

/** What README.md shows is so: its calls answer what stands beside them, and none is left out. */
public final class ReadmeTest {
    private static final Path PAGE = Path.of("README.md");
    private static final Path DOCUMENT = Path.of("../shared/DOC.md");
    private static final Path TESTS = Path.of("src/test/java");
    /** An object is used for so many calls at most. */
    private static final int CALLS = 512;

    private static final String NEW_OBJECT = "FeltZither zither = new FeltZither();";
    /** A call, and what it answers, with words behind it or without. */
    private static final Pattern CALL =
            Pattern.compile("zither\\.(\\w+)\\(([^()]*)\\); +// (-?\\d+)(: \\S.*)?");
    private static final Pattern BLOCK = Pattern.compile("(?ms)^```java\\n(.*?)^```$");
    private static final Pattern PROMISED =
            Pattern.compile("(?m)^## Promise (\\d+): (\\w+)\\n\\n`(?:int|long) (\\w+\\([^)]*\\))`");
    private static final Pattern CALL_ROW = Pattern.compile("(?m)^\\| (\\d+) \\| `(\\w+\\([^)]*\\))` \\| \\S.* \\|$");
    private static final Pattern NUMBER_ROW = Pattern.compile("(?m)^\\| `([A-Z]+)` \\| (-?\\d+) \\| \\S.* \\|$");

    private static final Check CHECK = new Check("readme");

    public static void main(String[] args) throws IOException, ReflectiveOperationException {
        String page = Files.readString(PAGE);
        callsAnswerWhatStandsBesideThem(page);
        eachCallStandsInATable(page);
        eachConstantStandsInATable(page);
        eachTestIsNamed(page);
        CHECK.finish();
    }

    /** The examples go on with one object; each line of them is the object or a call with its answer. */
    private static void callsAnswerWhatStandsBesideThem(String page) throws ReflectiveOperationException {
        Map<String, Method> face = face();
        Set<String> shown = new TreeSet<>();
        FeltZither zither = null;
        int calls = 0;
        Matcher block = BLOCK.matcher(page);
        while (block.find()) {
            for (String line : block.group(1).split("\n")) {
                if (line.equals(NEW_OBJECT)) {
                    CHECK.holds("there is one object", zither == null);
                    zither = new FeltZither();
                    continue;
                }
                Matcher call = CALL.matcher(line);
                boolean isShown = call.matches() && zither != null && face.containsKey(call.group(1));
                CHECK.holds("a call of the face with its answer: " + line, isShown);
                if (isShown) {
                    Object got = face.get(call.group(1)).invoke(zither, given(call.group(2)));
                    CHECK.due(line, ((Number) got).longValue(), Long.parseLong(call.group(3)));
                    shown.add(call.group(1));
                    calls++;
                }
            }
        }
        CHECK.holds("an object is used for 512 calls at most: " + calls, calls <= CALLS);
        CHECK.holds("each call is shown once: " + shown, shown.equals(face.keySet()));
    }

    private static Map<String, Method> face() {
        Map<String, Method> found = new HashMap<>();
        for (Method method : FeltZither.class.getMethods()) {
            if (method.getDeclaringClass() == FeltZither.class) {
                found.put(method.getName(), method);
            }
        }
        CHECK.due("calls of the face", found.size(), 50);
        return found;
    }

    private static Object[] given(String arguments) {
        if (arguments.isEmpty()) {
            return new Object[0];
        }
        String[] words = arguments.split(", ");
        Object[] found = new Object[words.length];
        for (int k = 0; k < words.length; k++) {
            boolean isTruth = words[k].equals("true") || words[k].equals("false");
            found[k] = isTruth ? (Object) Boolean.valueOf(words[k]) : (Object) Integer.valueOf(words[k]);
        }
        return found;
    }

    /** Each with the parameters and under the number that the document has for it. */
    private static void eachCallStandsInATable(String page) throws IOException {
        Map<Integer, String> due = new HashMap<>();
        Matcher promised = PROMISED.matcher(Files.readString(DOCUMENT));
        while (promised.find()) {
            due.put(Integer.parseInt(promised.group(1)), promised.group(3));
        }
        CHECK.due("promises of a call", due.size(), 50);
        Map<Integer, String> rows = new HashMap<>();
        Matcher row = CALL_ROW.matcher(page);
        while (row.find()) {
            rows.put(Integer.parseInt(row.group(1)), row.group(2));
        }
        for (Map.Entry<Integer, String> promise : due.entrySet()) {
            CHECK.holds("promise " + promise.getKey() + " stands in a table as " + promise.getValue(),
                    promise.getValue().equals(rows.get(promise.getKey())));
        }
        CHECK.due("rows of calls", rows.size(), due.size());
        CHECK.holds("the constructor is named", page.contains("`FeltZither()`"));
    }

    private static void eachConstantStandsInATable(String page) throws ReflectiveOperationException {
        Map<String, Long> rows = new HashMap<>();
        Matcher row = NUMBER_ROW.matcher(page);
        while (row.find()) {
            rows.put(row.group(1), Long.parseLong(row.group(2)));
        }
        for (Field constant : FeltZither.class.getFields()) {
            CHECK.holds(constant.getName() + " stands in a table", rows.containsKey(constant.getName()));
            CHECK.due(constant.getName(), rows.getOrDefault(constant.getName(), 0L), constant.getLong(null));
        }
        CHECK.due("rows of constants", rows.size(), FeltZither.class.getFields().length);
    }

    private static void eachTestIsNamed(String page) throws IOException {
        CHECK.holds("how all tests are run", page.contains("\n.ci/run\n"));
        try (Stream<Path> files = Files.list(TESTS)) {
            for (Path file : files.sorted().toList()) {
                String name = file.getFileName().toString().replaceFirst("\\.java$", "");
                CHECK.holds(name + " is named", page.contains("`" + name + "`"));
            }
        }
    }
}

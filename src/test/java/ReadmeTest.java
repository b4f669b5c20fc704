import java.io.IOException;
import java.lang.reflect.Method;
import java.nio.file.Files;
import java.nio.file.Path;
import java.util.HashMap;
import java.util.Map;
import java.util.Set;
import java.util.TreeSet;
import java.util.regex.Matcher;
import java.util.regex.Pattern;
import java.util.stream.Stream;

/** README.md: the calls of its example are made, and its tables compared with what is there. */
public final class ReadmeTest {
    private static final Pattern CALL = Pattern.compile("desk\\.(\\w+)\\((.*?)\\); +// (true|false|-?\\d+): .+");
    private static final Pattern NUMBER = Pattern.compile("int (\\w+) = (0x\\w+);");

    private final Checks c = new Checks();
    private final Map<String, Integer> numbers = new HashMap<>();
    private final String readme = Files.readString(Path.of("README.md"));

    private ReadmeTest() throws IOException {
        c.part("README.md");
    }

    public static void main(String[] args) throws IOException, ReflectiveOperationException {
        ReadmeTest t = new ReadmeTest();
        t.example();
        t.tables();
        t.files();
        t.c.finish();
    }

    private void example() throws ReflectiveOperationException {
        int start = readme.indexOf("```java\n") + 8;
        String[] lines = readme.substring(start, readme.indexOf("```", start)).split("\n");
        c.due("it begins with a new desk", lines[0].equals("VeneerDesk desk = new VeneerDesk();"), true);
        int calls = 0;
        for (int k = 1; k < lines.length; k++) {
            Matcher call = CALL.matcher(lines[k]);
            Matcher number = NUMBER.matcher(lines[k]);
            if (call.matches()) {
                calls++;
                c.due(lines[k], answer(call.group(1), call.group(2)), told(call.group(3)));
            } else if (number.matches()) {
                numbers.put(number.group(1), number(number.group(2)));
            } else {
                c.due("a line of another form: " + lines[k], lines[k].isBlank(), true);
            }
        }
        c.due("it has calls", calls > 0, true);
    }

    private long answer(String name, String told) throws ReflectiveOperationException {
        for (Method method : VeneerDesk.class.getMethods()) {
            if (method.getName().equals(name)) {
                String[] texts = told.isEmpty() ? new String[0] : told.split(", ");
                Object[] arguments = new Object[texts.length];
                for (int k = 0; k < texts.length; k++) {
                    boolean bit = method.getParameterTypes()[k] == boolean.class;
                    arguments[k] = bit ? (Object) Boolean.valueOf(texts[k]) : (Object) number(texts[k]);
                }
                return told(method.invoke(c.desk, arguments).toString());
            }
        }
        throw new NoSuchMethodException(name);
    }

    private int number(String text) {
        return numbers.containsKey(text) ? numbers.get(text) : Long.decode(text).intValue();
    }

    private static long told(String answer) {
        return answer.equals("true") ? 1 : answer.equals("false") ? 0 : Long.parseLong(answer);
    }

    private void tables() throws IOException {
        Set<String> named = new TreeSet<>();
        Matcher rows = Pattern.compile("(?m)^\\| `(\\w+)` \\| .+ \\|$").matcher(readme);
        while (rows.find()) {
            c.due(rows.group(1) + " is named once", named.add(rows.group(1)), true);
        }
        Set<String> there = new TreeSet<>();
        try (Stream<Path> files = Files.list(Path.of("src/test/java"))) {
            files.forEach(file -> there.add(file.getFileName().toString().replace(".java", "")));
        }
        c.due("the tables name " + named + ", but there are " + there, named.equals(there), true);
    }

    private void files() {
        c.due(".ci/run can be run", Files.isExecutable(Path.of(".ci/run")), true);
        Matcher paths = Pattern.compile("`([./\\w]*/[\\w./]+)`").matcher(readme);
        int found = 0;
        while (paths.find()) {
            found++;
            c.due(paths.group(1) + " is there", Files.exists(Path.of(paths.group(1))), true);
        }
        c.due("it names files", found > 0, true);
    }
}

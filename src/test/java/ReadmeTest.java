import java.io.IOException;
import java.lang.reflect.Method;
import java.nio.file.DirectoryStream;
import java.nio.file.Files;
import java.nio.file.Path;
import java.util.List;
import java.util.TreeSet;
import java.util.regex.Matcher;
import java.util.regex.Pattern;

/**
 * README.md says what is so: the calls of its example are made as they stand there and answer what
 * is written behind them, its table of calls is the public face, and its table of tests names
 * every test. Runs in the project's directory, where README.md is.
 */
public final class ReadmeTest {
    private static final Pattern MADE = Pattern.compile("IncrementalPackrat x = new IncrementalPackrat\\((.*?)\\);.*");
    private static final Pattern CALL = Pattern.compile("x\\.(\\w+)\\((.*?)\\);(?:\\s+// (?:answers (-?\\w+))?.*)?");
    private static final Pattern FIRST_CELL = Pattern.compile("\\| `(\\w+)(\\([^)]*\\))?`.*");
    private static final Pattern TEST_NAME = Pattern.compile("`(\\w+Test)`");

    private final Checks c = new Checks("ReadmeTest");
    private final List<String> lines;
    private IncrementalPackrat x = new IncrementalPackrat(1, 8);

    private ReadmeTest(List<String> lines) {
        this.lines = lines;
    }

    private static Object constant(String name) throws ReflectiveOperationException {
        return IncrementalPackrat.class.getField(name).get(null);
    }

    private static int number(String word) throws ReflectiveOperationException {
        if (word.startsWith("'")) {
            return word.charAt(1);
        }
        if (word.startsWith("IncrementalPackrat.")) {
            return (Integer) constant(word.substring("IncrementalPackrat.".length()));
        }
        return Integer.parseInt(word);
    }

    private static Method method(String name) throws ReflectiveOperationException {
        for (Method m : IncrementalPackrat.class.getDeclaredMethods()) {
            if (m.getName().equals(name)) {
                return m;
            }
        }
        throw new NoSuchMethodException(name);
    }

    private Object answer(String name, String words) throws ReflectiveOperationException {
        Method m = method(name);
        Class<?>[] types = m.getParameterTypes();
        String[] given = words.isEmpty() ? new String[0] : words.split(", ");
        Object[] values = new Object[given.length];
        for (int i = 0; i < given.length; i++) {
            int value = number(given[i]);
            values[i] = types[i] == char.class ? (Object) (char) value : (Object) value;
        }
        return m.invoke(x, values);
    }

    private void line(String line) throws ReflectiveOperationException {
        Matcher made = MADE.matcher(line);
        Matcher call = CALL.matcher(line);
        if (made.matches()) {
            String[] words = made.group(1).split(", ");
            x = new IncrementalPackrat(number(words[0]), number(words[1]));
        } else if (call.matches()) {
            Object got = answer(call.group(1), call.group(2));
            String want = call.group(3);
            if (want != null) {
                boolean named = Character.isUpperCase(want.charAt(0));
                c.due(line, String.valueOf(got), named ? String.valueOf(constant(want)) : want);
            }
        } else {
            c.due("the example's line '" + line + "' is a call", line.isBlank(), true);
        }
    }

    private void example() throws ReflectiveOperationException {
        int from = lines.indexOf("```java");
        c.due("there is an example", from >= 0, true);
        for (int i = from + 1; i < lines.size() && !lines.get(i).equals("```"); i++) {
            line(lines.get(i));
        }
    }

    /** The names in the first cells of the tables: those with arguments are calls. */
    private void calls() {
        TreeSet<String> told = new TreeSet<>();
        for (String line : lines) {
            Matcher cell = FIRST_CELL.matcher(line);
            if (cell.matches() && cell.group(2) != null) {
                int arguments = cell.group(2).equals("()") ? 0 : cell.group(2).split(",").length;
                told.add(cell.group(1) + " of " + arguments);
            }
        }
        TreeSet<String> there = new TreeSet<>();
        for (Method m : IncrementalPackrat.class.getMethods()) {
            if (m.getDeclaringClass() == IncrementalPackrat.class) {
                there.add(m.getName() + " of " + m.getParameterCount());
            }
        }
        there.add("IncrementalPackrat of 2");
        c.due("the calls of README.md", told.toString(), there.toString());
    }

    private void tests() throws IOException {
        TreeSet<String> told = new TreeSet<>();
        for (String line : lines) {
            Matcher name = TEST_NAME.matcher(line.startsWith("| ") ? line : "");
            while (name.find()) {
                told.add(name.group(1));
            }
        }
        TreeSet<String> there = new TreeSet<>();
        try (DirectoryStream<Path> files = Files.newDirectoryStream(Path.of("src/test/java"), "*Test.java")) {
            for (Path file : files) {
                there.add(file.getFileName().toString().replace(".java", ""));
            }
        }
        c.due("the tests of README.md", told.toString(), there.toString());
    }

    public static void main(String[] args) throws Exception {
        ReadmeTest t = new ReadmeTest(Files.readAllLines(Path.of("README.md")));
        t.example();
        t.calls();
        t.tests();
        t.c.end();
    }
}

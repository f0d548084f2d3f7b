import java.lang.reflect.Field;
import java.lang.reflect.Method;
import java.lang.reflect.Modifier;
import java.nio.file.Files;
import java.nio.file.Path;
import java.util.Arrays;
import java.util.List;
import java.util.Set;
import java.util.TreeMap;
import java.util.TreeSet;
import java.util.regex.Matcher;
import java.util.regex.Pattern;

/** README.md: each call and constant stands in it, and its examples answer what it says. */
public final class ReadmeTest {
    private static final Pattern MADE = Pattern.compile("AlwaysThere x = new AlwaysThere\\(\\);");
    private static final Pattern TOLD = Pattern.compile("for \\(char letter : \"([^\"]*)\"\\.toCharArray\\(\\)\\) \\{");
    private static final Pattern ASKED = Pattern.compile("x\\.(\\w+)\\(([-0-9, ]*)\\);\\s*// (-?\\d+)(:.*)?");
    private static final Pattern CALL_ROW = Pattern.compile("\\| `(\\w+)\\(([\\w, ]*)\\)` \\| ([^|]+) \\| ?([^|]*?) ?\\|");
    private static final Pattern CONSTANT_ROW = Pattern.compile("\\| `([A-Z]+)` \\| (-\\d+) \\|.*");

    public static void main(String[] args) throws Exception {
        List<String> lines = Files.readAllLines(Path.of("README.md"));
        examples(lines);
        calls(lines);
        constants(lines);
        items(lines);
        testsAreNamed(lines);
        Checks.end();
    }

    private static void examples(List<String> lines) throws Exception {
        boolean inCode = false;
        int blocks = 0;
        AlwaysThere x = null;
        for (String line : lines) {
            if (line.startsWith("```")) {
                inCode = line.equals("```java");
                blocks += inCode ? 1 : 0;
                x = null;
            } else if (inCode) {
                x = follow(x, line.trim());
            }
        }
        Checks.holds("README.md has an example of use and one of refused calls", blocks >= 2);
    }

    private static AlwaysThere follow(AlwaysThere x, String line) throws Exception {
        Matcher told = TOLD.matcher(line);
        Matcher asked = ASKED.matcher(line);
        if (MADE.matcher(line).matches()) {
            return new AlwaysThere();
        }
        if (told.matches()) {
            Checks.tell(x, told.group(1));
        } else if (asked.matches()) {
            long due = Long.parseLong(asked.group(3));
            Checks.due("README.md: " + line, answer(x, asked.group(1), asked.group(2)), due);
        } else {
            Checks.holds("README.md: a line that this test knows: " + line,
                line.equals("x.type(letter);") || line.equals("}"));
        }
        return x;
    }

    private static long answer(AlwaysThere x, String name, String numbers) throws Exception {
        String[] told = numbers.isEmpty() ? new String[0] : numbers.split(", ");
        Object[] given = new Object[told.length];
        Class<?>[] types = new Class<?>[told.length];
        for (int i = 0; i < told.length; i++) {
            given[i] = Integer.valueOf(told[i]);
            types[i] = int.class;
        }
        return ((Number) AlwaysThere.class.getMethod(name, types).invoke(x, given)).longValue();
    }

    /** Each call has one row, with as many arguments as it takes, and with what the document says of refusing it. */
    private static void calls(List<String> lines) {
        TreeMap<String, String> rows = new TreeMap<>();
        for (String line : lines) {
            Matcher row = CALL_ROW.matcher(line);
            if (row.matches()) {
                int arguments = row.group(2).isEmpty() ? 0 : row.group(2).split(", ").length;
                Checks.holds("one row alone for " + row.group(1),
                    rows.put(row.group(1) + "/" + arguments, row.group(4)) == null);
            }
        }
        Set<String> due = new TreeSet<>();
        for (Method m : AlwaysThere.class.getDeclaredMethods()) {
            if (Modifier.isPublic(m.getModifiers())) {
                due.add(m.getName() + "/" + m.getParameterCount());
            }
        }
        Checks.holds("README.md has rows for " + rows.keySet() + ", due are " + due, rows.keySet().equals(due));
        refusals(rows);
    }

    private static void refusals(TreeMap<String, String> rows) {
        Set<String> never = Set.of("clear/0", "furrows/0", "one/0", "forget/0", "fits/0", "trace/0");
        for (String call : rows.keySet()) {
            String due = switch (call) {
                case "type/1" -> "BAD, FULL";
                case "sits/4" -> "BAD, STATE, FULL";
                case "undo/0" -> "STATE";
                case "back/1" -> "BAD, STATE";
                case "rate/2" -> "NO";
                default -> never.contains(call) ? "" : "BAD";
            };
            Checks.holds("how " + call + " is refused: " + rows.get(call), rows.get(call).equals(due));
        }
    }

    private static void constants(List<String> lines) throws Exception {
        Set<String> got = new TreeSet<>();
        for (String line : lines) {
            Matcher row = CONSTANT_ROW.matcher(line);
            if (row.matches()) {
                Field constant = AlwaysThere.class.getField(row.group(1));
                Checks.due(row.group(1), constant.getInt(null), Integer.parseInt(row.group(2)));
                got.add(row.group(1));
            }
        }
        Checks.holds("rows for " + got, got.equals(Set.of("BAD", "STATE", "FULL", "NO")));
        Checks.holds("NONE stands there", String.join("\n", lines).contains("`NONE` (-9)"));
    }

    private static void items(List<String> lines) {
        for (String item : Arrays.asList("n N", "f A B L", "v A B", "h M", "s N", "t N", "r N", "c P P ..")) {
            Checks.holds("a row for the item " + item,
                lines.stream().anyMatch(line -> line.startsWith("| `" + item + "` |")));
        }
    }

    private static void testsAreNamed(List<String> lines) throws Exception {
        Checks.holds("the command that runs all tests stands there", lines.contains(".ci/run"));
        try (var files = Files.list(Path.of("src/test/java"))) {
            for (Path file : (Iterable<Path>) files::iterator) {
                String name = file.getFileName().toString().replace(".java", "");
                Checks.holds("a row for " + name,
                    !name.endsWith("Test") || lines.stream().anyMatch(line -> line.startsWith("| " + name + " |")));
            }
        }
    }
}

import java.io.IOException;
import java.lang.reflect.Method;
import java.lang.reflect.Modifier;
import java.nio.file.Files;
import java.nio.file.Path;
import java.util.ArrayList;
import java.util.HashMap;
import java.util.List;
import java.util.Map;
import java.util.TreeMap;
import java.util.regex.Matcher;
import java.util.regex.Pattern;
import java.util.stream.Stream;

/** What README.md says, read from the file itself, so that the two can't part. */
final class ReadmeTest {
    private static final Pattern MAKING = Pattern.compile("RaidPool pool = new RaidPool\\(\\); +//.*");
    private static final Pattern LINE = Pattern.compile(
            "(?:int (\\w+) = )?(pool\\.(\\w+)\\(([^)]*)\\));"
            + " +// (OK|NONE|FULL|LOST|DOWN|true|false|-?\\d+)(?:: .*)?");
    private static final Pattern ROW = Pattern.compile("(?m)^\\| `(\\w+)\\(([^)]*)\\)` \\|");

    private final String text;
    private final Map<String, Method> face = new TreeMap<>();
    private final Map<String, Integer> numbers = new HashMap<>(Map.of(
            "OK", RaidPool.OK, "NONE", RaidPool.NONE, "FULL", RaidPool.FULL, "LOST", RaidPool.LOST,
            "DOWN", RaidPool.DOWN, "true", 1, "false", 0));

    private ReadmeTest(String text) {
        this.text = text;
        for (Method method : RaidPool.class.getDeclaredMethods()) {
            if (Modifier.isPublic(method.getModifiers())) {
                face.put(method.getName(), method);
            }
        }
    }

    public static void main(String[] args) throws Exception {
        ReadmeTest test = new ReadmeTest(Files.readString(Path.of("README.md")));
        test.example();
        test.tableOfCalls();
        test.constants();
        test.tests();
        Due.end();
    }

    private void example() throws ReflectiveOperationException {
        Due.sentence("An example");
        int start = text.indexOf("```java\n") + 8;
        RaidPool pool = null;
        List<String> shown = new ArrayList<>();
        for (String line : text.substring(start, text.indexOf("```", start)).split("\n+")) {
            if (MAKING.matcher(line).matches()) {
                pool = new RaidPool();
                continue;
            }
            Matcher m = LINE.matcher(line);
            Due.yes("a line of the form that this test knows: " + line, m.matches());
            if (m.matches()) {
                int answer = answer(pool, face.get(m.group(3)), m.group(4));
                Due.is(m.group(2), answer, number(m.group(5)));
                if (m.group(1) != null) {
                    numbers.put(m.group(1), answer);
                }
                shown.add(m.group(3));
            }
        }
        for (String name : face.keySet()) {
            Due.yes("the example shows " + name, shown.contains(name));
        }
    }

    private int answer(RaidPool pool, Method method, String words) throws ReflectiveOperationException {
        Class<?>[] types = method.getParameterTypes();
        String[] given = parts(words);
        Object[] arguments = new Object[types.length];
        for (int i = 0; i < types.length; i++) {
            int number = number(given[i]);
            arguments[i] = types[i] == boolean.class ? (Object) (number == 1) : (Object) number;
        }
        Object answer = method.invoke(pool, arguments);
        return answer instanceof Boolean yes ? (yes ? 1 : 0) : (Integer) answer;
    }

    private int number(String word) {
        return numbers.containsKey(word) ? numbers.get(word) : Integer.parseInt(word);
    }

    private static String[] parts(String words) {
        return words.isEmpty() ? new String[0] : words.split(", ");
    }

    private void tableOfCalls() {
        Due.sentence("The calls");
        Matcher m = ROW.matcher(text);
        int rows = 0;
        while (m.find()) {
            Method method = face.get(m.group(1));
            Due.yes("there is a call " + m.group(1), method != null);
            if (method != null) {
                Due.is("parameters of " + m.group(1), parts(m.group(2)).length, method.getParameterCount());
            }
            rows++;
        }
        Due.is("rows", rows, face.size());
    }

    private void constants() {
        Due.sentence("NONE (-1), FULL (-2), LOST (-3), DOWN (-4)");
        for (String name : List.of("NONE", "FULL", "LOST", "DOWN")) {
            Due.yes(name, text.contains("`" + name + "` (" + numbers.get(name) + "): "));
        }
    }

    private void tests() throws IOException {
        Due.sentence("Tests");
        Due.yes(".ci/run can be run", Files.isExecutable(Path.of(".ci/run")));
        try (Stream<Path> files = Files.list(Path.of("src/test/java"))) {
            for (String name : files.map(file -> file.getFileName().toString()).sorted().toList()) {
                if (name.endsWith("Test.java")) {
                    String kind = name.replace(".java", "").replaceAll("Promise\\d\\d.*Test", "PromiseNNxxxTest");
                    Due.yes("README.md tells of " + kind, text.contains("`" + kind + "`"));
                }
            }
        }
        Matcher m = Pattern.compile("java -cp build/project (\\w+)").matcher(text);
        Due.yes("how to run one test", m.find());
        Due.yes(m.group(1) + " is a test", Files.exists(Path.of("src/test/java", m.group(1) + ".java")));
    }
}

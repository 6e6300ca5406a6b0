import java.lang.reflect.Field;
import java.lang.reflect.Method;
import java.lang.reflect.Modifier;
import java.nio.file.Files;
import java.nio.file.Path;
import java.util.ArrayList;
import java.util.HashMap;
import java.util.List;
import java.util.Map;
import java.util.Set;
import java.util.TreeSet;
import java.util.regex.Matcher;
import java.util.regex.Pattern;

/** The document's public face, and those rules of LANGUAGE.md that can be seen from the source. */
final class LanguageTest {
    private static final String[] FACE = {
        "int write(int,int,int)", "boolean delay(int)", "int flush(int)", "int read(int,int)",
        "int trim(int,int)", "int snapshot(int)", "int drop(int)", "boolean change(int,boolean)",
        "int rebuild(int)", "boolean spoil(int,int,int)", "int scrub(int)", "boolean crash(int)",
        "boolean recover()", "int raw(int,int)", "int place(int,int)", "int state(int)"};
    private static final String FORBIDDEN = "\\b(import|package|throw|throws|try|catch|finally|synchronized"
            + "|assert|instanceof|null|float|double|String|Object|Math|Integer|Long|System|Arrays|Thread"
            + "|interface|enum|record|protected|var|this|super|native|volatile|transient)\\b|->|::|@|\"";
    private static final Pattern METHOD =
            Pattern.compile("    (?:public|private) (?:static )?(?:(?:int|void|boolean) )?(\\w+)\\(([^)]*)\\) \\{\n");
    private static final Pattern CALL = Pattern.compile("\\b([a-z]\\w*)\\(");

    private final String source;
    private final Map<String, String> bodies = new HashMap<>();

    private LanguageTest(String text) {
        source = text.replaceAll("(?s)/\\*.*?\\*/", "").replaceAll("//[^\n]*", "");
        Matcher m = METHOD.matcher(source);
        while (m.find()) {
            String body = source.substring(m.end(), source.indexOf("\n    }\n", m.end()) + 1);
            Due.is("one method of the name " + m.group(1), bodies.put(m.group(1), body) == null ? 1 : 0, 1);
            Due.yes(m.group(1) + " has at most 60 lines", body.lines().count() <= 60);
            Due.yes(m.group(1) + " has at most 7 parameters", m.group(2).split(",").length <= 7);
        }
    }

    public static void main(String[] args) throws Exception {
        face();
        LanguageTest test = new LanguageTest(Files.readString(Path.of("src/main/java/RaidPool.java")));
        test.words();
        test.arrays();
        test.depth();
        test.callsInArguments();
        Due.end();
    }

    private static void face() {
        Set<String> methods = new TreeSet<>();
        for (Method m : RaidPool.class.getDeclaredMethods()) {
            List<String> types = new ArrayList<>();
            for (Class<?> type : m.getParameterTypes()) {
                types.add(type.getName());
            }
            if (Modifier.isPublic(m.getModifiers())) {
                methods.add(m.getReturnType() + " " + m.getName() + "(" + String.join(",", types) + ")");
                Due.no(m.getName() + " is static", Modifier.isStatic(m.getModifiers()));
            } else {
                Due.yes(m.getName() + " is private", Modifier.isPrivate(m.getModifiers()));
            }
        }
        Due.yes("the public methods " + methods, methods.equals(new TreeSet<>(List.of(FACE))));
        Set<String> constants = new TreeSet<>();
        int fields = 0;
        for (Field f : RaidPool.class.getDeclaredFields()) {
            if (Modifier.isPublic(f.getModifiers())) {
                constants.add(f.getName());
            } else {
                Due.yes(f.getName() + " is private", Modifier.isPrivate(f.getModifiers()));
            }
            fields += Modifier.isStatic(f.getModifiers()) ? 0 : 1;
        }
        Due.yes("the constants " + constants, constants.equals(Set.of("OK", "NONE", "FULL", "LOST", "DOWN")));
        Due.yes("at most 40 fields", fields <= 40);
        Due.yes("public and final", RaidPool.class.getModifiers() == (Modifier.PUBLIC | Modifier.FINAL));
        Due.is("constructors", RaidPool.class.getConstructors().length, 1);
        Due.is("OK", RaidPool.OK, 0);
        Due.is("NONE", RaidPool.NONE, -1);
        Due.is("FULL", RaidPool.FULL, -2);
        Due.is("LOST", RaidPool.LOST, -3);
        Due.is("DOWN", RaidPool.DOWN, -4);
    }

    private void words() {
        Matcher m = Pattern.compile(FORBIDDEN).matcher(source);
        while (m.find()) {
            Due.no("the source has " + m.group(), true);
        }
        Due.no("a static field that is no constant",
                Pattern.compile("static (?!final (int|long) \\w)").matcher(source).find());
        Due.no("an array of arrays", source.contains("[]["));
        Due.is("classes", Pattern.compile("\\bclass\\b").matcher(source).results().count(), 1);
    }

    private void arrays() {
        long all = Pattern.compile("\\bnew\\b").matcher(source).results().count();
        long fields = Pattern.compile("    private final \\w+\\[\\] \\w+ = new \\w+\\[[A-Z_]+\\];\n")
                .matcher(source).results().count();
        Due.is("what is made outside of the fields", all - fields, 0);
    }

    private List<String> called(String body) {
        List<String> names = new ArrayList<>();
        Matcher m = CALL.matcher(body);
        while (m.find()) {
            if (bodies.containsKey(m.group(1))) {
                names.add(m.group(1));
            }
        }
        return names;
    }

    /** Goes down level by level, so that a recursion shows as a depth without end. */
    private void depth() {
        Set<String> level = new TreeSet<>(bodies.keySet());
        int depth = 0;
        while (!level.isEmpty() && depth < 7) {
            Set<String> below = new TreeSet<>();
            for (String name : level) {
                below.addAll(called(bodies.get(name)));
            }
            level = below;
            depth++;
        }
        Due.yes("calls go at most six deep", level.isEmpty());
        for (String name : bodies.keySet()) {
            boolean used = bodies.values().stream().anyMatch(body -> called(body).contains(name));
            boolean offered = name.equals("RaidPool") || List.of(FACE).stream().anyMatch(f -> f.contains(" " + name + "("));
            Due.yes(name + " is used", used || offered);
            Due.no(name + " is public and used inside", used && offered);
        }
    }

    private void callsInArguments() {
        for (String body : bodies.values()) {
            Matcher m = CALL.matcher(body);
            while (m.find()) {
                if (!bodies.containsKey(m.group(1))) {
                    continue;
                }
                int open = 1;
                int end = m.end();
                while (open > 0) {
                    open += body.charAt(end) == '(' ? 1 : body.charAt(end) == ')' ? -1 : 0;
                    end++;
                }
                String arguments = body.substring(m.end(), end);
                Due.is("calls in the arguments of " + m.group(1) + "(" + arguments, called(arguments).size(), 0);
            }
        }
    }
}

import java.io.File;
import java.lang.reflect.Field;
import java.lang.reflect.Method;
import java.lang.reflect.Modifier;
import java.nio.file.Files;
import java.nio.file.Path;
import java.util.Set;
import java.util.TreeSet;
import java.util.regex.Matcher;
import java.util.regex.Pattern;

/** What README.md shows is so when it is run, and it names every call, every constant and every test. */
public final class ReadmeTest {
    private static final Pattern BLOCK = Pattern.compile("(?s)```java\n(.*?)```");
    private static final Pattern MADE = Pattern.compile("BellTrees x = new BellTrees\\(\\);\\s+//.*|"
        + "BellTrees x = new BellTrees\\(\\);");
    private static final Pattern SHOWN = Pattern.compile("x\\.(\\w+)\\(((?:'.'|[^()'])*)\\);\\s+// (-?\\d+)(?:: .*)?");
    private static final Pattern CALL_ROW = Pattern.compile("(?m)^\\| `(\\w+)\\(([^()]*)\\)` \\|");
    private static final Pattern CONSTANT_ROW = Pattern.compile("(?m)^\\| `([A-Z]+)` \\| (-?\\d+) \\|");
    private static final Pattern TEST_NAME = Pattern.compile("\\b\\w+Test\\b");

    private static final Set<String> shownCalls = new TreeSet<>();

    public static void main(String[] args) throws Exception {
        Check check = new Check();
        String text = Files.readString(Path.of("README.md"));
        Matcher blocks = BLOCK.matcher(text);
        while (blocks.find()) {
            run(check, blocks.group(1));
        }
        everyCallIsNamedAndShown(check, text);
        everyConstantIsNamed(check, text);
        everyTestIsNamed(check, text);
        for (Class<?> inside : BellTrees.class.getDeclaredClasses()) {
            check.holds(inside.getSimpleName() + " is named", text.contains("| " + inside.getSimpleName() + " |"));
        }
        check.holds(".ci/run is named", text.contains("    .ci/run\n"));
        check.holds(".ci/run can be run", new File(".ci/run").canExecute());
        check.end();
    }

    /** Each line of an example makes a new object, or is a call with its answer behind it. */
    private static void run(Check check, String block) throws Exception {
        BellTrees x = null;
        for (String line : block.split("\n")) {
            Matcher shown = SHOWN.matcher(line);
            if (MADE.matcher(line).matches()) {
                x = new BellTrees();
            } else if (x != null && shown.matches()) {
                long got = answer(x, shown.group(1), shown.group(2));
                check.due("README.md: " + line, got, Long.parseLong(shown.group(3)));
            } else {
                check.holds("README.md: a line that no one can run: " + line, false);
            }
        }
    }

    private static long answer(BellTrees x, String name, String told) throws Exception {
        String[] words = words(told);
        Method call = callOf(name, words.length);
        if (call == null) {
            return Long.MAX_VALUE;
        }
        shownCalls.add(name);
        Object[] values = new Object[words.length];
        for (int i = 0; i < values.length; i++) {
            long value = words[i].matches("'.'") ? words[i].charAt(1) : Long.parseLong(words[i]);
            boolean isLong = call.getParameterTypes()[i] == long.class;
            values[i] = isLong ? (Object) value : (Object) Math.toIntExact(value);
        }
        return ((Number) call.invoke(x, values)).longValue();
    }

    private static String[] words(String told) {
        return told.isEmpty() ? new String[0] : told.split(", ");
    }

    private static Method callOf(String name, int parameters) {
        for (Method m : BellTrees.class.getDeclaredMethods()) {
            if (isPublic(m) && m.getName().equals(name) && m.getParameterCount() == parameters) {
                return m;
            }
        }
        return null;
    }

    private static boolean isPublic(Method m) {
        return Modifier.isPublic(m.getModifiers());
    }

    private static void everyCallIsNamedAndShown(Check check, String text) {
        Set<String> named = new TreeSet<>();
        Matcher rows = CALL_ROW.matcher(text);
        while (rows.find()) {
            check.holds(rows.group() + " is there", callOf(rows.group(1), words(rows.group(2)).length) != null);
            check.holds(rows.group() + " is named once", named.add(rows.group(1)));
        }
        for (Method m : BellTrees.class.getDeclaredMethods()) {
            check.holds(m.getName() + " is named", !isPublic(m) || named.contains(m.getName()));
            check.holds(m.getName() + " is shown", !isPublic(m) || shownCalls.contains(m.getName()));
        }
    }

    private static void everyConstantIsNamed(Check check, String text) throws Exception {
        Set<String> named = new TreeSet<>();
        Matcher rows = CONSTANT_ROW.matcher(text);
        while (rows.find()) {
            named.add(rows.group(1));
            int value = BellTrees.class.getField(rows.group(1)).getInt(null);
            check.due(rows.group(1), value, Long.parseLong(rows.group(2)));
        }
        for (Field f : BellTrees.class.getFields()) {
            check.holds(f.getName() + " is named", named.contains(f.getName()));
        }
    }

    private static void everyTestIsNamed(Check check, String text) {
        String[] files = new File("src/test/java").list();
        check.holds("there are tests", files != null);
        for (String file : files) {
            String name = file.replace(".java", "");
            check.holds(name + " is named", Pattern.compile("\\b" + name + "\\b").matcher(text).find());
        }
        Matcher names = TEST_NAME.matcher(text);
        while (names.find()) {
            check.holds(names.group() + " is there", new File("src/test/java/" + names.group() + ".java").exists());
        }
    }
}

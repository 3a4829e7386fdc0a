import java.lang.reflect.Field;
import java.lang.reflect.Method;
import java.lang.reflect.Modifier;
import java.nio.file.Files;
import java.nio.file.Path;
import java.util.regex.Matcher;
import java.util.regex.Pattern;

/** README.md: the answers that its example gives, and that it names every call and constant of the class. */
public final class ReadmeTest {
    private static final Check check = new Check();
    private static final Pattern MAKING = Pattern.compile("BenesFabric x = new BenesFabric\\((.*?)\\);\\s*//.*");
    private static final Pattern CALL = Pattern.compile("x\\.(\\w+)\\((.*?)\\);\\s*// (-?\\d+)(?: \\((\\w+)\\))?(?::.*)?");

    public static void main(String[] args) throws Exception {
        String readme = Files.readString(Path.of("README.md"));
        exampleHolds(readme);
        everyMemberIsNamed(readme);
        check.end();
    }

    private static void exampleHolds(String readme) throws Exception {
        check.part("the example");
        BenesFabric x = null;
        int calls = 0;
        for (String line : example(readme).split("\n")) {
            Matcher making = MAKING.matcher(line);
            Matcher call = CALL.matcher(line);
            if (making.matches()) {
                int[] sizes = values(making.group(1));
                x = new BenesFabric(sizes[0], sizes[1]);
            } else if (call.matches() && x != null) {
                calls++;
                answerIsDue(x, call);
            } else {
                check.due("'" + line + "' is a call with its answer, or empty", line.isEmpty());
            }
        }
        check.due("it has calls", calls > 0);
    }

    private static String example(String readme) {
        Matcher block = Pattern.compile("(?s)```java\n(.*?)```").matcher(readme);
        return block.find() ? block.group(1) : "";
    }

    private static void answerIsDue(BenesFabric x, Matcher call) throws Exception {
        int want = Integer.parseInt(call.group(3));
        check.due(call.group(), answer(x, call.group(1), values(call.group(2))), want);
        if (call.group(4) != null) {
            check.due(call.group(4) + " in " + call.group(), constant(call.group(4)), want);
        }
    }

    private static int answer(BenesFabric x, String name, int[] values) throws Exception {
        Class<?>[] types = new Class<?>[values.length];
        Object[] handed = new Object[values.length];
        for (int i = 0; i < values.length; i++) {
            types[i] = int.class;
            handed[i] = values[i];
        }
        return (int) BenesFabric.class.getMethod(name, types).invoke(x, handed);
    }

    private static int[] values(String list) throws Exception {
        if (list.isEmpty()) {
            return new int[0];
        }
        String[] words = list.split(", ");
        int[] values = new int[words.length];
        for (int i = 0; i < words.length; i++) {
            boolean named = words[i].startsWith("BenesFabric.");
            values[i] = named ? constant(words[i].substring("BenesFabric.".length())) : Integer.parseInt(words[i]);
        }
        return values;
    }

    private static int constant(String name) throws Exception {
        return BenesFabric.class.getField(name).getInt(null);
    }

    private static void everyMemberIsNamed(String readme) {
        check.part("the page");
        for (Method method : BenesFabric.class.getDeclaredMethods()) {
            if (Modifier.isPublic(method.getModifiers())) {
                check.due("it has a row for " + method.getName(), readme.contains("\n| `" + method.getName() + "("));
            }
        }
        for (Field field : BenesFabric.class.getFields()) {
            check.due("it names " + field.getName(), readme.contains("`" + field.getName() + "`"));
        }
    }
}

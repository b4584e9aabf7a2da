import java.lang.reflect.Method;
import java.lang.reflect.Modifier;
import java.nio.file.Files;
import java.nio.file.Path;
import java.util.TreeSet;
import java.util.regex.Matcher;
import java.util.regex.Pattern;

/** README.md's example answers what its comments say, and its table has each call with its parameters. */
public final class ReadmeTest {
    private static final Checks C = new Checks();

    private static final Pattern BLOCK = Pattern.compile("```java\n(.*?)```", Pattern.DOTALL);
    private static final Pattern TEXT = Pattern.compile("String text = (.*);");
    private static final Pattern CALL = Pattern.compile("(?m)^desk\\.(\\w+)\\((.*?)\\);\\s*// (-?\\d+|[A-Z]+):");
    private static final Pattern ROW = Pattern.compile("(?m)^\\| `(\\w+)\\((.*?)\\)` \\|");

    public static void main(String[] args) throws Exception {
        C.part("README.md");
        String readme = Files.readString(Path.of("README.md"));
        example(readme);
        table(readme);
        C.finish();
    }

    private static void example(String readme) throws Exception {
        Matcher block = BLOCK.matcher(readme);
        C.due("an example", block.find() ? 1 : 0, 1);
        String code = block.group(1);
        Matcher text = TEXT.matcher(code);
        C.due("a text", text.find() ? 1 : 0, 1);
        LampShares desk = new LampShares();
        Checks.tell(desk, text.group(1).replaceAll("[\" +]", ""));
        Matcher call = CALL.matcher(code);
        int calls = 0;
        while (call.find()) {
            calls++;
            C.due(call.group(1) + "(" + call.group(2) + ")", answer(desk, call.group(1), call.group(2)), due(call.group(3)));
        }
        long lines = code.lines().filter(line -> line.startsWith("desk.")).count();
        C.due("calls with their answers", calls, lines);
    }

    private static Method method(String name) throws NoSuchMethodException {
        for (Method method : LampShares.class.getDeclaredMethods()) {
            if (method.getName().equals(name) && Modifier.isPublic(method.getModifiers())) {
                return method;
            }
        }
        throw new NoSuchMethodException(name);
    }

    private static long answer(LampShares desk, String name, String told) throws Exception {
        Method method = method(name);
        String[] words = told.isEmpty() ? new String[0] : told.split(", ");
        Class<?>[] types = method.getParameterTypes();
        Object[] values = new Object[words.length];
        for (int i = 0; i < words.length; i++) {
            if (types[i] == boolean.class) {
                values[i] = Boolean.valueOf(words[i]);
            } else if (types[i] == long.class) {
                values[i] = Long.valueOf(words[i].replace("L", ""));
            } else {
                values[i] = Integer.valueOf(words[i]);
            }
        }
        return ((Number) method.invoke(desk, values)).longValue();
    }

    private static long due(String told) throws ReflectiveOperationException {
        return Character.isUpperCase(told.charAt(0)) ? LampShares.class.getField(told).getInt(null) : Long.parseLong(told);
    }

    private static void table(String readme) {
        TreeSet<String> due = new TreeSet<>();
        for (Method method : LampShares.class.getDeclaredMethods()) {
            if (Modifier.isPublic(method.getModifiers())) {
                due.add(method.getName() + " of " + method.getParameterCount());
            }
        }
        TreeSet<String> told = new TreeSet<>();
        Matcher row = ROW.matcher(readme);
        while (row.find()) {
            told.add(row.group(1) + " of " + (row.group(2).isEmpty() ? 0 : row.group(2).split(", ").length));
        }
        C.same("calls in the table", told.toString(), due.toString());
    }
}

import java.io.IOException;
import java.lang.reflect.InvocationTargetException;
import java.lang.reflect.Method;
import java.lang.reflect.Modifier;
import java.nio.file.Files;
import java.nio.file.Path;
import java.util.HashMap;
import java.util.Map;
import java.util.regex.Matcher;
import java.util.regex.Pattern;

/** README.md: each call of its example answers what stands behind it, and its table has each call of the class. */
public final class ReadmeTest {
    private static final Pattern TEXT = Pattern.compile("sign : \"([^\"]+)\"");
    private static final Pattern CALL = Pattern.compile("(?:int (\\w+) = )?x\\.(\\w+)\\(([^)]*)\\); +// (-?\\d+): .*");

    public static void main(String[] args) throws IOException, IllegalAccessException, InvocationTargetException {
        String readme = Files.readString(Path.of("README.md"));
        example(readme.substring(readme.indexOf("```java"), readme.indexOf("```\n")));
        table(readme);
        Check.end("ReadmeTest");
    }

    private static void example(String code) throws IllegalAccessException, InvocationTargetException {
        SlotChip x = new SlotChip();
        Map<String, Long> named = new HashMap<>();
        int calls = 0;
        for (String line : code.split("\n")) {
            Matcher text = TEXT.matcher(line);
            if (text.find()) {
                Check.write(x, text.group(1));
            }
            Matcher call = CALL.matcher(line);
            if (call.matches()) {
                long answer = call(x, call.group(2), call.group(3), named);
                Check.due(line, answer, Long.parseLong(call.group(4)));
                named.put(String.valueOf(call.group(1)), answer);
                calls++;
            }
        }
        Check.due("calls of the example", calls, 14);
    }

    private static long call(SlotChip x, String name, String arguments, Map<String, Long> named)
        throws IllegalAccessException, InvocationTargetException {
        String[] words = arguments.isEmpty() ? new String[0] : arguments.split(", ");
        Object[] values = new Object[words.length];
        for (int i = 0; i < words.length; i++) {
            boolean isFlag = words[i].equals("true") || words[i].equals("false");
            values[i] = isFlag ? (Object) Boolean.valueOf(words[i]) : named.containsKey(words[i])
                ? (Object) named.get(words[i]).intValue() : (Object) Integer.valueOf(words[i]);
        }
        for (Method method : SlotChip.class.getDeclaredMethods()) {
            if (method.getName().equals(name) && Modifier.isPublic(method.getModifiers())) {
                return ((Number) method.invoke(x, values)).longValue();
            }
        }
        throw new IllegalStateException("no call " + name);
    }

    private static void table(String readme) {
        for (Method method : SlotChip.class.getDeclaredMethods()) {
            if (Modifier.isPublic(method.getModifiers())) {
                int arguments = method.getParameterCount();
                String row = "| `" + method.getName() + "(" + (arguments == 0 ? "" : "\\w+" + ", \\w+".repeat(arguments - 1));
                boolean isThere = Pattern.compile(row.replace("|", "\\|").replace("(", "\\(") + "\\)`").matcher(readme).find();
                Check.due("README.md has " + method.getName(), isThere ? 1 : 0, 1);
            }
        }
    }
}

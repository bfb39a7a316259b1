import java.io.IOException;
import java.lang.reflect.Method;
import java.lang.reflect.Modifier;
import java.nio.file.Files;
import java.nio.file.Path;
import java.util.HashMap;
import java.util.Map;
import java.util.regex.Matcher;
import java.util.regex.Pattern;

/** README.md: its example answers what stands beside each call, and each call of the class has a row in its table. */
public final class ReadmeTest {
    private static final Pattern CALL = Pattern.compile("file\\.(\\w+)\\(([^)]*)\\);\\s*// (-?\\d+|true|false)\\b.*");
    private static int wrong = 0;

    private static void fail(String what) {
        wrong++;
        System.out.println(what);
    }

    private static Map<String, Method> face() {
        Map<String, Method> all = new HashMap<>();
        for (Method m : SplitBehind.class.getDeclaredMethods()) {
            if (Modifier.isPublic(m.getModifiers())) all.put(m.getName(), m);
        }
        return all;
    }

    private static Object[] numbersOf(String args) {
        if (args.isBlank()) return new Object[0];
        String[] each = args.split(",");
        Object[] numbers = new Object[each.length];
        for (int i = 0; i < each.length; i++) numbers[i] = Long.decode(each[i].trim()).intValue();
        return numbers;
    }

    private static int example(String readme, Map<String, Method> face) throws ReflectiveOperationException {
        int begin = readme.indexOf("```java");
        int end = readme.indexOf("```", begin + 3);
        if (begin < 0 || end < 0) {
            fail("there is no example");
            return 0;
        }
        SplitBehind file = new SplitBehind();
        int calls = 0;
        for (String line : readme.substring(begin, end).split("\n")) {
            if (!line.startsWith("file.")) continue;
            Matcher call = CALL.matcher(line);
            if (!call.matches() || !face.containsKey(call.group(1))) {
                fail("no call with its answer: " + line);
                continue;
            }
            calls++;
            String answer = face.get(call.group(1)).invoke(file, numbersOf(call.group(2))).toString();
            if (!answer.equals(call.group(3))) fail("answered " + answer + ": " + line);
        }
        if (calls == 0) fail("the example has no calls");
        return calls;
    }

    private static void table(String readme, Map<String, Method> face) {
        face.forEach((name, method) -> {
            Matcher row = Pattern.compile("(?m)^\\| `" + name + "\\(([^)]*)\\)` \\|.*\\|.*\\|$").matcher(readme);
            if (!row.find()) {
                fail("no row for " + name);
            } else if (numbersIn(row.group(1)) != method.getParameterCount()) {
                fail("the row for " + name + " has other arguments than the call");
            }
        });
    }

    private static int numbersIn(String args) {
        return args.isBlank() ? 0 : args.split(",").length;
    }

    public static void main(String[] args) throws IOException, ReflectiveOperationException {
        String readme = Files.readString(Path.of("README.md"));
        Map<String, Method> face = face();
        int calls = example(readme, face);
        table(readme, face);
        System.out.println(calls + " calls of the example and " + face.size() + " rows, " + wrong + " not as due");
        if (wrong > 0) System.exit(1);
    }
}

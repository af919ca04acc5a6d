import java.lang.reflect.Field;
import java.lang.reflect.Method;
import java.lang.reflect.Modifier;
import java.nio.file.Files;
import java.nio.file.Path;
import java.util.HashSet;
import java.util.List;
import java.util.Set;
import java.util.regex.Matcher;
import java.util.regex.Pattern;

/** README.md shows every method and constant, and the calls of its example answer what it says. */
final class ReadmeTest {
    private static final Pattern CALL = Pattern.compile("m\\.(\\w+)\\((.*)\\); +// (-?\\w+)(:.*)?");
    private static final Due due = new Due();

    public static void main(String[] args) throws Exception {
        List<String> lines = Files.readAllLines(Path.of("README.md"));
        Set<String> called = callExample(lines);
        for (Method method : NetMatcher.class.getDeclaredMethods()) {
            if (Modifier.isPublic(method.getModifiers())) {
                String name = method.getName();
                due.is("the example calls " + name, called.contains(name), true);
                due.is("a row for " + name, hasRow(lines, "| `" + name + "("), true);
            }
        }
        for (Field field : NetMatcher.class.getFields()) {
            String row = "| `" + field.getName() + "` | " + field.getInt(null) + " |";
            due.is("the row " + row, hasRow(lines, row), true);
        }
        due.end();
    }

    /** Makes the calls of the Java block on one object, in order, and answers the names of the methods called. */
    private static Set<String> callExample(List<String> lines) throws Exception {
        NetMatcher m = new NetMatcher();
        Set<String> called = new HashSet<>();
        int start = lines.indexOf("```java") + 1;
        int end = start + lines.subList(start, lines.size()).indexOf("```");
        due.is("the example begins with a new object",
            lines.get(start).equals("NetMatcher m = new NetMatcher();"), true);
        for (String line : lines.subList(start + 1, end)) {
            if (!line.isEmpty() && !line.startsWith("// ")) {
                Matcher call = CALL.matcher(line);
                boolean read = call.matches();
                due.is("a call with its answer: " + line, read, true);
                if (read) {
                    called.add(call.group(1));
                    due.is(line, answer(m, call.group(1), call.group(2)), value(call.group(3)));
                }
            }
        }
        return called;
    }

    private static boolean hasRow(List<String> lines, String start) {
        return lines.stream().anyMatch(line -> line.startsWith(start));
    }

    private static long answer(NetMatcher m, String name, String arguments) throws Exception {
        String[] texts = arguments.isEmpty() ? new String[0] : arguments.split(", ");
        Class<?>[] types = new Class<?>[texts.length];
        Object[] values = new Object[texts.length];
        for (int k = 0; k < texts.length; k++) {
            types[k] = int.class;
            values[k] = sum(texts[k]);
        }
        Object answer = NetMatcher.class.getMethod(name, types).invoke(m, values);
        return answer instanceof Boolean ? ((Boolean) answer ? 1 : 0) : (Integer) answer;
    }

    /** An argument as the example writes it: a sum of products of numbers, or a constant. */
    private static int sum(String text) throws Exception {
        int sum = 0;
        for (String summand : text.split(" \\+ ")) {
            int product = 1;
            for (String factor : summand.split(" \\* ")) {
                product *= value(factor);
            }
            sum += product;
        }
        return sum;
    }

    private static int value(String word) throws Exception {
        if (word.equals("true") || word.equals("false")) {
            return word.equals("true") ? 1 : 0;
        }
        if (word.matches("-?\\d+")) {
            return Integer.parseInt(word);
        }
        return NetMatcher.class.getField(word.replace("NetMatcher.", "")).getInt(null);
    }
}

import java.io.IOException;
import java.lang.reflect.InvocationTargetException;
import java.lang.reflect.Method;
import java.lang.reflect.Modifier;
import java.nio.file.Files;
import java.nio.file.Path;
import java.util.HashMap;
import java.util.Map;
import java.util.Set;
import java.util.TreeSet;
import java.util.regex.Matcher;
import java.util.regex.Pattern;

/** Makes the calls of the example in README.md, and holds the answers against those that stand behind them. */
final class ReadmeTest {
    private static final Pattern NEW = Pattern.compile("AreaCrossings x = new AreaCrossings\\((\\d+)\\);.*");
    private static final Pattern CALL = Pattern.compile("(?:int (\\w+) = )?x\\.(\\w+)\\((.*?)\\); *// (true|false|-?\\d+)(?::.*)?");

    private final Check check = new Check("README.md");
    private final Map<String, Method> face = new HashMap<>();
    private final Map<String, Object> names = new HashMap<>();
    private final Set<String> called = new TreeSet<>();
    private AreaCrossings x = null;

    public static void main(String[] args) throws IOException, ReflectiveOperationException {
        new ReadmeTest().go(Files.readString(Path.of("README.md")));
    }

    private void go(String text) throws ReflectiveOperationException {
        for (Method method : AreaCrossings.class.getDeclaredMethods()) {
            if (Modifier.isPublic(method.getModifiers())) {
                face.put(method.getName(), method);
            }
        }
        int begin = text.indexOf("```java");
        int end = text.indexOf("```", begin + 1);
        check.due("an example", begin >= 0 && end > begin, true);
        for (String line : text.substring(begin, end).split("\n")) {
            if (!line.isBlank() && !line.startsWith("```")) {
                dueLine(line);
            }
        }
        check.due("calls of the example", called.toString(), new TreeSet<>(face.keySet()).toString());
        for (String name : face.keySet()) {
            check.due("a row for " + name, text.contains("\n| `" + name + "("), true);
        }
        check.due("says how to run the tests", text.contains("`.ci/run`"), true);
        check.end();
    }

    private void dueLine(String line) throws ReflectiveOperationException {
        Matcher made = NEW.matcher(line);
        Matcher call = CALL.matcher(line);
        if (made.matches()) {
            x = new AreaCrossings(Integer.parseInt(made.group(1)));
        } else if (x != null && call.matches() && face.containsKey(call.group(2))) {
            called.add(call.group(2));
            Object answer = answer(face.get(call.group(2)), call.group(3));
            check.due(line, answer.toString(), call.group(4));
            names.put(call.group(1), answer);
        } else {
            check.due("a line that is no call: " + line, false, true);
        }
    }

    private Object answer(Method method, String list) throws IllegalAccessException, InvocationTargetException {
        Class<?>[] types = method.getParameterTypes();
        String[] words = list.isEmpty() ? new String[0] : list.split(", *");
        Object[] arguments = new Object[words.length];
        for (int i = 0; i < words.length; i++) {
            String number = names.getOrDefault(words[i], words[i]).toString();
            if (types[i] == long.class) {
                arguments[i] = Long.valueOf(number);
            } else {
                arguments[i] = Integer.valueOf(number);
            }
        }
        return method.invoke(x, arguments);
    }
}

import java.io.IOException;
import java.lang.reflect.Method;
import java.lang.reflect.Modifier;
import java.nio.file.Files;
import java.nio.file.Path;
import java.util.HashMap;
import java.util.Map;
import java.util.Set;
import java.util.TreeSet;
import java.util.regex.Matcher;
import java.util.regex.Pattern;
import java.util.stream.Stream;

/** The calls that README.md shows, made in their order, answer what it says. */
public final class ReadmeTest {
    private static final String NEW_DESK = "IndependenceDesk desk = new IndependenceDesk();";
    private static final Pattern CALL = Pattern.compile(
            "(?:int (\\w+) = )?desk\\.(\\w+)\\(([^)]*)\\);\\s+// ([^\\s:]+)(?::.*)?");
    private final Map<String, Method> face = new HashMap<>();
    private final Map<String, Long> rules = new HashMap<>();
    private final Set<String> unseen = new TreeSet<>();
    private IndependenceDesk desk;

    public static void main(String[] args) throws IOException, ReflectiveOperationException {
        String text = Files.readString(Path.of("README.md"));
        new ReadmeTest().callAll(text);
        namesEveryTest(text);
        Due.done();
    }

    private ReadmeTest() {
        for (Method method : IndependenceDesk.class.getDeclaredMethods()) {
            if (Modifier.isPublic(method.getModifiers())) {
                face.put(method.getName(), method);
                unseen.add(method.getName());
            }
        }
    }

    private void callAll(String text) throws ReflectiveOperationException {
        boolean inside = false;
        for (String line : text.split("\n")) {
            if (line.startsWith("```")) {
                inside = line.equals("```java");
            } else if (inside) {
                takeLine(line);
            }
        }
        Due.is("calls that README.md does not show: " + unseen, unseen.size(), 0);
    }

    private void takeLine(String line) throws ReflectiveOperationException {
        if (line.equals(NEW_DESK)) {
            desk = new IndependenceDesk();
            return;
        }
        Matcher call = CALL.matcher(line);
        boolean isCall = call.matches() && face.containsKey(call.group(2));
        Due.is("README.md: a call with its answer: " + line, isCall, true);
        if (isCall) {
            long answer = answerOf(face.get(call.group(2)), call.group(3).split(", *"));
            Due.is("README.md: " + line, answer, value(call.group(4)));
            unseen.remove(call.group(2));
            if (call.group(1) != null) {
                rules.put(call.group(1), answer);
            }
        }
    }

    private long answerOf(Method method, String[] words) throws ReflectiveOperationException {
        Class<?>[] types = method.getParameterTypes();
        Object[] arguments = new Object[types.length];
        for (int i = 0; i < types.length; i++) {
            long value = value(words[i]);
            arguments[i] = types[i] == boolean.class ? (Object) (value != 0)
                    : types[i] == long.class ? (Object) value : (Object) (int) value;
        }
        Object answer = method.invoke(desk, arguments);
        return answer instanceof Number number ? number.longValue() : answer.equals(true) ? 1 : 0;
    }

    private long value(String word) {
        if (rules.containsKey(word)) {
            return rules.get(word);
        }
        if (word.equals("true") || word.equals("false")) {
            return word.equals("true") ? 1 : 0;
        }
        return word.startsWith("0b") ? Long.parseLong(word.substring(2), 2) : Long.parseLong(word);
    }

    private static void namesEveryTest(String text) throws IOException {
        try (Stream<Path> files = Files.list(Path.of("src/test/java"))) {
            files.map(file -> file.getFileName().toString().replace(".java", ""))
                    .filter(name -> name.endsWith("Test"))
                    .forEach(name -> Due.is("README.md names " + name, text.contains("`" + name + "`"), true));
        }
    }
}

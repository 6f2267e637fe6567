import java.io.IOException;
import java.lang.reflect.Method;
import java.nio.charset.StandardCharsets;
import java.nio.file.Files;
import java.nio.file.Path;
import java.util.TreeMap;
import java.util.TreeSet;
import java.util.regex.Matcher;
import java.util.regex.Pattern;

/** Makes every call that README.md shows, and compares the answer with the one that stands behind it. */
public final class ReadmeTest {
    private static final Due DUE = new Due();
    private static final Pattern CALL = Pattern.compile("house\\.(\\w+)\\(([^)]*)\\); +// (-?\\d+).*");
    private static final String NEW = "UnderstudyHouse house = new UnderstudyHouse();";
    private static final int MOST_CALLS = 512;

    private final TreeMap<String, Method> face = new TreeMap<>();
    private final TreeSet<String> shown = new TreeSet<>();
    private UnderstudyHouse house;
    private int calls;

    private ReadmeTest() {
        for (Method method : UnderstudyHouse.class.getMethods()) {
            if (method.getDeclaringClass() == UnderstudyHouse.class) {
                face.put(method.getName(), method);
            }
        }
    }

    public static void main(String[] args) throws IOException, ReflectiveOperationException {
        ReadmeTest test = new ReadmeTest();
        boolean inside = false;
        for (String line : Files.readAllLines(Path.of("README.md"), StandardCharsets.UTF_8)) {
            if (line.startsWith("```")) {
                inside = line.equals("```java");
            } else if (inside && !line.isBlank()) {
                test.read(line);
            }
        }
        DUE.due("calls shown of " + test.face.keySet(), test.shown.size(), test.face.size());
        DUE.end();
    }

    private void read(String line) throws ReflectiveOperationException {
        if (line.equals(NEW)) {
            house = new UnderstudyHouse();
            calls = 0;
            return;
        }
        Matcher matcher = CALL.matcher(line);
        boolean good = matcher.matches() && face.containsKey(matcher.group(1)) && house != null;
        DUE.due("README.md: a call and its answer: " + line, good ? 1 : 0, 1);
        if (good) {
            Method method = face.get(matcher.group(1));
            Object answer = method.invoke(house, numbers(method, matcher.group(2)));
            DUE.due("README.md: " + line, (Integer) answer, Long.parseLong(matcher.group(3)));
            shown.add(method.getName());
            calls++;
            DUE.due("README.md: no more calls than an object is used for", calls <= MOST_CALLS ? 1 : 0, 1);
        }
    }

    private static Object[] numbers(Method method, String told) {
        Class<?>[] types = method.getParameterTypes();
        String[] words = told.isBlank() ? new String[0] : told.split(",");
        DUE.due("README.md: numbers of " + method.getName(), words.length, types.length);
        Object[] numbers = new Object[types.length];
        for (int i = 0; i < types.length; i++) {
            String word = words[i].trim();
            long number = Long.decode(word.endsWith("L") ? word.substring(0, word.length() - 1) : word);
            numbers[i] = types[i] == long.class ? (Object) number : (Object) Math.toIntExact(number);
        }
        return numbers;
    }
}

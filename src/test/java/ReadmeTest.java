import java.io.IOException;
import java.lang.reflect.Method;
import java.lang.reflect.Modifier;
import java.nio.file.Files;
import java.nio.file.Path;
import java.util.List;
import java.util.regex.Matcher;
import java.util.regex.Pattern;

/** The examples of README.md answer what it says; run from the project's folder. */
public final class ReadmeTest {
    private static final Path README = Path.of("README.md");
    private static final Pattern CALL = Pattern.compile("x\\.(\\w+)\\((.*)\\);\\s+// (-?\\d+|[A-Z]+):.*");
    private static final String NEW_OBJECT = "VoiceHeaps x = new VoiceHeaps();";

    public static void main(String[] args) throws IOException, ReflectiveOperationException {
        List<String> lines = Files.readAllLines(README);
        examples(lines);
        everyCallIsTold(String.join("\n", lines));
        Check.end();
    }

    private static void examples(List<String> lines) throws ReflectiveOperationException {
        VoiceHeaps x = null;
        boolean isJava = false;
        int objects = 0;
        for (String line : lines) {
            if (line.startsWith("```")) {
                isJava = line.equals("```java");
            } else if (isJava && line.equals(NEW_OBJECT)) {
                x = new VoiceHeaps();
                objects++;
            } else if (isJava) {
                Matcher call = CALL.matcher(line);
                Check.holds("README: a call with its answer: " + line, call.matches() && x != null);
                if (call.matches() && x != null) {
                    Check.due("README: " + line, answer(x, call.group(1), call.group(2)), number(call.group(3)));
                }
            }
        }
        Check.due("README: examples", objects, 2);
    }

    private static void everyCallIsTold(String text) {
        for (Method method : VoiceHeaps.class.getDeclaredMethods()) {
            if (Modifier.isPublic(method.getModifiers())) {
                Check.holds("README: tells of " + method.getName(), text.contains("`" + method.getName() + "("));
            }
        }
    }

    private static long answer(VoiceHeaps x, String name, String told) throws ReflectiveOperationException {
        String[] numbers = told.isEmpty() ? new String[0] : told.split(", ");
        for (Method method : VoiceHeaps.class.getDeclaredMethods()) {
            if (method.getName().equals(name) && method.getParameterCount() == numbers.length) {
                Object[] given = new Object[numbers.length];
                for (int i = 0; i < given.length; i++) {
                    long v = Long.decode(numbers[i].replace("L", ""));
                    if (method.getParameterTypes()[i] == long.class) {
                        given[i] = v;
                    } else {
                        given[i] = Math.toIntExact(v);
                    }
                }
                return ((Number) method.invoke(x, given)).longValue();
            }
        }
        throw new NoSuchMethodException(name);
    }

    private static long number(String told) throws ReflectiveOperationException {
        boolean isName = Character.isLetter(told.charAt(0));
        return isName ? VoiceHeaps.class.getField(told).getInt(null) : Long.parseLong(told);
    }
}

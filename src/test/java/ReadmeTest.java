import java.io.IOException;
import java.lang.reflect.Field;
import java.lang.reflect.Method;
import java.lang.reflect.Modifier;
import java.nio.file.Files;
import java.nio.file.Path;
import java.util.List;
import java.util.Set;
import java.util.TreeSet;
import java.util.regex.Matcher;
import java.util.regex.Pattern;

/** What README.md says of the class: its example answers as it tells, and it leaves out no call or constant. */
public final class ReadmeTest {
    private static final Pattern CALL =
        Pattern.compile("server\\.(\\w+)\\(([^)]*)\\);(?: +// ([-\\w]+)(?::.*)?)?");

    private static final Check check = new Check();

    public static void main(String[] args) throws IOException, ReflectiveOperationException {
        List<String> lines = Files.readAllLines(Path.of("README.md"));
        example(lines);
        everyCall(lines);
        everyConstant(lines);
        check.finish();
    }

    private static void example(List<String> lines) throws ReflectiveOperationException {
        CapabilityServer server = new CapabilityServer(42);
        Set<String> called = new TreeSet<>();
        for (String line : lines) {
            Matcher call = CALL.matcher(line);
            if (call.matches()) {
                called.add(call.group(1));
                check.due(line, answer(server, call.group(1), call.group(2)), told(call.group(3)));
            } else {
                check.due("a line that isn't understood: " + line, line.startsWith("server."), false);
            }
        }
        check.due("the calls of the example", called.toString(), publicMethods().toString());
    }

    private static Set<String> publicMethods() {
        Set<String> names = new TreeSet<>();
        for (Method method : CapabilityServer.class.getDeclaredMethods()) {
            if (Modifier.isPublic(method.getModifiers())) {
                names.add(method.getName());
            }
        }
        return names;
    }

    private static String answer(CapabilityServer server, String name, String given)
            throws ReflectiveOperationException {
        String[] words = given.isEmpty() ? new String[0] : given.split(", ");
        Class<?>[] types = new Class<?>[words.length];
        Object[] numbers = new Object[words.length];
        for (int i = 0; i < words.length; i++) {
            types[i] = int.class;
            numbers[i] = Integer.valueOf(number(words[i].replace("CapabilityServer.", "")));
        }
        Object answer = CapabilityServer.class.getMethod(name, types).invoke(server, numbers);
        return String.valueOf(answer);
    }

    // No word is due for a void call, whose answer reflection gives as null.
    private static String told(String word) throws ReflectiveOperationException {
        boolean plain = word == null || word.equals("true") || word.equals("false");
        return plain ? String.valueOf(word) : number(word);
    }

    private static String number(String word) throws ReflectiveOperationException {
        boolean named = Character.isLetter(word.charAt(0));
        return named ? String.valueOf(CapabilityServer.class.getField(word).getInt(null)) : word;
    }

    private static void everyCall(List<String> lines) {
        for (String name : publicMethods()) {
            String begin = "| `" + name + "(";
            long rows = lines.stream().filter(line -> line.startsWith(begin)).count();
            check.due("how many rows begin with " + begin, rows, 1);
        }
    }

    private static void everyConstant(List<String> lines) throws ReflectiveOperationException {
        for (Field field : CapabilityServer.class.getFields()) {
            String row = "| `" + field.getName() + "` | " + field.getInt(null) + " |";
            check.due("there is the row " + row, lines.contains(row), true);
        }
    }
}

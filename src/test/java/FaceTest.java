import java.io.IOException;
import java.lang.reflect.Constructor;
import java.lang.reflect.Field;
import java.lang.reflect.Member;
import java.lang.reflect.Method;
import java.lang.reflect.Modifier;
import java.nio.file.Files;
import java.nio.file.Path;
import java.util.Arrays;
import java.util.HashSet;
import java.util.Set;
import java.util.TreeSet;
import java.util.regex.Matcher;
import java.util.regex.Pattern;

/** The public face, and those rules of LANGUAGE.md that can be seen without reading the methods. */
public final class FaceTest {
    private static final Set<String> FACE = Set.of(
        "public static final int BAD_USER=-1", "public static final int BAD_SLOT=-2",
        "public static final int REFUSED=-3", "public static final int FULL=-4",
        "public static final int BAD_RIGHTS=-5", "public static final int LOST=-6",
        "public static final int READ=1", "public static final int ADD=2",
        "public static final int DESTROY=4", "public static final int REVOKE=8",
        "public new[int]", "public int create[int, int]", "public int read[int, int]",
        "public int add[int, int, int]", "public int destroy[int, int]", "public int revoke[int, int]",
        "public int restrict[int, int, int, int]", "public int again[int]", "public int copy[int, int, int]",
        "public int tamper[int, int, int]", "public int clear[int, int]", "public void restart[]",
        "public boolean genuine[int, int]", "public int rights[int, int]", "public int alive[]");

    private static final Set<String> TYPES = Set.of(
        "int", "long", "short", "byte", "char", "boolean",
        "int[]", "long[]", "short[]", "byte[]", "char[]", "boolean[]");

    private static final Pattern FORBIDDEN = Pattern.compile(
        "\\b(import|package|throw|throws|try|catch|finally|synchronized|assert|instanceof|null|float"
        + "|double|var|String|Object|Math|Integer|Long|System|Arrays|enum|interface|record|protected)\\b"
        + "|->|::|\"|\\[\\]\\[\\]");

    private static final Class<CapabilityServer> TYPE = CapabilityServer.class;
    private static final Check check = new Check();

    public static void main(String[] args) throws IOException, IllegalAccessException {
        face();
        theClass();
        fields();
        methods();
        forbiddenWords();
        check.finish();
    }

    // A member that is neither public nor private would be reached by the tests, so it has to be told by name.
    private static void face() throws IllegalAccessException {
        Set<String> shown = new TreeSet<>();
        for (Field field : TYPE.getDeclaredFields()) {
            if (isShown(field)) {
                field.setAccessible(true);
                Object number = field.get(new CapabilityServer(0));
                shown.add(modifiers(field) + field.getType() + " " + field.getName() + "=" + number);
            }
        }
        for (Constructor<?> constructor : TYPE.getDeclaredConstructors()) {
            shown.add(modifiers(constructor) + "new" + names(constructor.getParameterTypes()));
        }
        for (Method method : TYPE.getDeclaredMethods()) {
            if (isShown(method)) {
                String name = method.getReturnType() + " " + method.getName();
                shown.add(modifiers(method) + name + names(method.getParameterTypes()));
            }
        }
        check.due("the face", shown.toString(), new TreeSet<>(FACE).toString());
    }

    private static void theClass() {
        check.due("the class", Modifier.toString(TYPE.getModifiers()), "public final");
        check.due("the package", TYPE.getPackageName(), "");
        check.due("what it extends", TYPE.getSuperclass().getSimpleName(), "Object");
        check.due("interfaces", TYPE.getInterfaces().length, 0);
        check.due("nested classes", TYPE.getDeclaredClasses().length, 0);
    }

    private static void fields() {
        int changing = 0;
        for (Field field : TYPE.getDeclaredFields()) {
            check.due(field + " has an allowed type", isAllowed(field.getType()), true);
            if (Modifier.isStatic(field.getModifiers())) {
                check.due(field + " is a constant", isConstant(field), true);
            } else {
                changing++;
            }
        }
        check.due("at most some forty fields", changing <= 40, true);
    }

    private static void methods() {
        Set<String> publicNames = new HashSet<>();
        for (Method method : TYPE.getDeclaredMethods()) {
            if (isShown(method)) {
                publicNames.add(method.getName());
            }
        }
        for (Method method : TYPE.getDeclaredMethods()) {
            boolean clash = !isShown(method) && publicNames.contains(method.getName());
            check.due(method + " bears a public name", clash, false);
            check.due(method + " has few parameters", method.getParameterCount() <= 7, true);
            check.due(method + " answers an array", method.getReturnType().isArray(), false);
        }
    }

    private static boolean isShown(Member member) {
        return !Modifier.isPrivate(member.getModifiers());
    }

    private static boolean isConstant(Field field) {
        boolean number = field.getType() == int.class || field.getType() == long.class;
        return number && Modifier.isFinal(field.getModifiers());
    }

    private static boolean isAllowed(Class<?> type) {
        return TYPES.contains(type.getSimpleName());
    }

    private static String modifiers(Member member) {
        String words = Modifier.toString(member.getModifiers());
        return words.isEmpty() ? "" : words + " ";
    }

    private static String names(Class<?>[] types) {
        return Arrays.toString(Arrays.stream(types).map(Class::getSimpleName).toArray());
    }

    private static void forbiddenWords() throws IOException {
        String source = Files.readString(Path.of("src/main/java/CapabilityServer.java"));
        String code = source.replaceAll("(?s)/\\*.*?\\*/", "").replaceAll("//[^\\n]*", "");
        Matcher matcher = FORBIDDEN.matcher(code);
        while (matcher.find()) {
            check.due("forbidden in the source: " + matcher.group(), true, false);
        }
    }
}

import java.io.IOException;
import java.lang.reflect.Constructor;
import java.lang.reflect.Field;
import java.lang.reflect.Member;
import java.lang.reflect.Method;
import java.lang.reflect.Modifier;
import java.nio.file.Files;
import java.nio.file.Path;
import java.util.Arrays;
import java.util.HashSet;
import java.util.Set;
import java.util.TreeSet;
import java.util.regex.Matcher;
import java.util.regex.Pattern;

/** The public face, and those rules of LANGUAGE.md that can be seen without reading the methods. */
public final class FaceTest {
    private static final Set<String> FACE = Set.of(
        "BAD_USER=-1", "BAD_SLOT=-2", "REFUSED=-3", "FULL=-4", "BAD_RIGHTS=-5", "LOST=-6",
        "READ=1", "ADD=2", "DESTROY=4", "REVOKE=8",
        "new[int]", "int create[int, int]", "int read[int, int]", "int add[int, int, int]",
        "int destroy[int, int]", "int revoke[int, int]", "int restrict[int, int, int, int]",
        "int again[int]", "int copy[int, int, int]", "int tamper[int, int, int]",
        "int clear[int, int]", "void restart[]", "boolean genuine[int, int]",
        "int rights[int, int]", "int alive[]");

    private static final Set<String> TYPES = Set.of(
        "int", "long", "short", "byte", "char", "boolean",
        "int[]", "long[]", "short[]", "byte[]", "char[]", "boolean[]");

    private static final Pattern FORBIDDEN = Pattern.compile(
        "\\b(import|package|throw|throws|try|catch|finally|synchronized|assert|instanceof|null|float"
        + "|double|var|String|Object|Math|Integer|Long|System|Arrays|enum|interface|record|protected)\\b"
        + "|->|::|\"|\\[\\]\\[\\]");

    private static final Check check = new Check();

    public static void main(String[] args) throws IOException, IllegalAccessException {
        Class<CapabilityServer> type = CapabilityServer.class;
        Set<String> shown = new TreeSet<>();
        Set<String> publicMethods = new HashSet<>();
        for (Field field : type.getDeclaredFields()) {
            if (isShown(field)) {
                check.due(field + " is static and final", isConstant(field), true);
                shown.add(field.getName() + "=" + field.getInt(new CapabilityServer(0)));
            }
            check.due(field + " has an allowed type", isAllowed(field.getType()), true);
            if (Modifier.isStatic(field.getModifiers())) {
                check.due(field + " is a constant", isConstant(field), true);
            }
        }
        for (Constructor<?> constructor : type.getDeclaredConstructors()) {
            shown.add("new" + names(constructor.getParameterTypes()));
        }
        for (Method method : type.getDeclaredMethods()) {
            if (isShown(method)) {
                publicMethods.add(method.getName());
                shown.add(method.getReturnType() + " " + method.getName() + names(method.getParameterTypes()));
            }
            check.due(method + " has few parameters", method.getParameterCount() <= 7, true);
        }
        for (Method method : type.getDeclaredMethods()) {
            boolean clash = !isShown(method) && publicMethods.contains(method.getName());
            check.due(method + " bears a public name", clash, false);
        }
        Set<String> due = new TreeSet<>(FACE);
        check.due("the face " + shown + " is " + due, shown.equals(due), true);
        check.due("public final class", type.getModifiers(), Modifier.PUBLIC | Modifier.FINAL);
        check.due("nested classes", type.getDeclaredClasses().length, 0);
        forbiddenWords();
        check.finish();
    }

    private static boolean isShown(Member member) {
        return !Modifier.isPrivate(member.getModifiers());
    }

    private static boolean isConstant(Field field) {
        boolean number = field.getType() == int.class || field.getType() == long.class;
        return number && Modifier.isStatic(field.getModifiers()) && Modifier.isFinal(field.getModifiers());
    }

    private static boolean isAllowed(Class<?> type) {
        return TYPES.contains(type.getSimpleName());
    }

    private static String names(Class<?>[] types) {
        return Arrays.toString(Arrays.stream(types).map(Class::getSimpleName).toArray());
    }

    private static void forbiddenWords() throws IOException {
        String source = Files.readString(Path.of("src/main/java/CapabilityServer.java"));
        String code = source.replaceAll("(?s)/\\*.*?\\*/", "").replaceAll("//[^\\n]*", "");
        Matcher matcher = FORBIDDEN.matcher(code);
        while (matcher.find()) {
            check.due("forbidden in the source: " + matcher.group(), true, false);
        }
    }
}

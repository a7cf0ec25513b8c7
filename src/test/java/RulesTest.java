import java.io.IOException;
import java.lang.reflect.Field;
import java.lang.reflect.Method;
import java.lang.reflect.Modifier;
import java.nio.charset.StandardCharsets;
import java.nio.file.Files;
import java.nio.file.Path;
import java.util.ArrayList;
import java.util.HashSet;
import java.util.List;
import java.util.Set;
import java.util.regex.Matcher;
import java.util.regex.Pattern;

/**
 * What of ../shared/LANGUAGE.md can be seen without understanding the program; the numbers are those of its rules.
 * Run it in the project's directory.
 */
public final class RulesTest {
    private static final Path SOURCE = Path.of("src", "main", "java", "RecyclingLine.java");
    private static final Set<String> IMPORTS = Set.of("java.util.Arrays", "java.util.ArrayList", "java.util.List",
        "java.util.Iterator", "java.util.NoSuchElementException");
    private static final Set<String> LIBRARY = Set.of("System.arraycopy", "Arrays.copyOf", "Arrays.copyOfRange", "Arrays.fill",
        "Math.max", "Math.min", "Math.abs", "Math.floorDiv", "Math.floorMod", "List.of");
    private static final Set<String> EXCEPTIONS = Set.of("IllegalStateException", "IllegalArgumentException",
        "IndexOutOfBoundsException", "ArithmeticException", "UnsupportedOperationException", "NoSuchElementException",
        "RuntimeException");
    private static final Set<Class<?>> PLAIN = Set.of(void.class, int.class, long.class, short.class, byte.class, char.class,
        boolean.class, double.class, float.class, String.class, StringBuilder.class);
    private static final String FORBIDDEN = "->|::|\\b(finally|synchronized|assert|volatile|native|transient|var|yield|Object"
        + "|hashCode|toString|getMessage|Thread|Random|package)\\b";

    private RulesTest() {
    }

    public static void main(String[] args) throws IOException {
        String source = Files.readString(SOURCE, StandardCharsets.UTF_8);
        String code = withoutComments(source);
        List<Class<?>> classes = new ArrayList<>(List.of(RecyclingLine.class.getDeclaredClasses()));
        classes.add(RecyclingLine.class);
        Checks.due("rule 4: characters beyond 127", source.chars().filter(c -> c > 127).count(), 0L);
        Checks.due("rules 2, 3, 6: forbidden words", found(code, FORBIDDEN), List.of());
        Checks.due("rule 4: other imports", others(code, "\\bimport ([^;]+);", IMPORTS), List.of());
        Checks.due("rule 4: other functions", others(code, "\\b([A-Z][a-z]+\\.[a-z]\\w*)(?=\\()", ownFunctions(classes)), List.of());
        Checks.due("rule 6: throws of another form", found(code, "\\bthrow\\b(?! new \\w+\\(\"[ -~]*\"\\);)"), List.of());
        Checks.due("rule 6: other exceptions", others(code, "\\bthrow new (\\w+)", EXCEPTIONS), List.of());
        Checks.due("rule 6: catches (none is needed)", found(code, "\\b(try|catch)\\b"), List.of());
        Checks.due("rule 11: long methods", longMethods(code), List.of());
        Checks.due("rule 11: more than 12 classes", classes.size() > 12, false);
        for (Class<?> each : classes) {
            checkFields(each);
            checkMethods(each);
        }
        Checks.finish();
    }

    private static void checkFields(Class<?> each) {
        int own = 0;
        for (Field field : each.getDeclaredFields()) {
            boolean isStatic = Modifier.isStatic(field.getModifiers());
            own += isStatic ? 0 : 1;
            Checks.due("rule 3: type of " + field, isAllowed(field.getType()), true);
            Checks.due("rule 5: final " + field, isStatic && !Modifier.isFinal(field.getModifiers()), false);
        }
        Checks.due("rule 11: more than 20 fields in " + each, own > 20, false);
    }

    private static void checkMethods(Class<?> each) {
        for (Method method : each.getDeclaredMethods()) {
            Checks.due("rule 11: more than 7 parameters of " + method, method.getParameterCount() > 7, false);
            Checks.due("rule 3: type of " + method, isAllowed(method.getReturnType()), true);
            for (Class<?> type : method.getParameterTypes()) {
                Checks.due("rule 3: types of " + method, isAllowed(type), true);
            }
            if (each != RecyclingLine.class) {
                Checks.due("rule 1: public name of " + method, isPublicName(method.getName()), false);
            }
        }
    }

    private static boolean isPublicName(String name) {
        for (Method method : RecyclingLine.class.getDeclaredMethods()) {
            if (Modifier.isPublic(method.getModifiers()) && method.getName().equals(name)) {
                return true;
            }
        }
        return false;
    }

    private static boolean isAllowed(Class<?> type) {
        Class<?> inner = type.isArray() ? type.getComponentType() : type;
        return PLAIN.contains(inner) || inner.getEnclosingClass() == RecyclingLine.class;
    }

    private static Set<String> ownFunctions(List<Class<?>> classes) {
        Set<String> all = new HashSet<>(LIBRARY);
        for (Class<?> each : classes) {
            for (Method method : each.getDeclaredMethods()) {
                all.add(each.getSimpleName() + "." + method.getName());
            }
        }
        return all;
    }

    private static List<String> longMethods(String code) {
        List<String> all = new ArrayList<>();
        Matcher method = Pattern.compile("(?ms)^( {4}| {8})(\\S[^;{}]*\\([^;{}]*)\\{\\n(.*?)^\\1\\}").matcher(code);
        int count = 0;
        while (method.find()) {
            count++;
            if (method.group(3).lines().count() > 60) {
                all.add(method.group(2));
            }
        }
        Checks.due("rule 11: that methods are seen", count > 50, true);
        return all;
    }

    private static String withoutComments(String source) {
        return source.replaceAll("(?s)/\\*.*?\\*/", "").replaceAll("//[^\\n]*", "");
    }

    private static List<String> found(String code, String pattern) {
        List<String> all = new ArrayList<>();
        Matcher matcher = Pattern.compile(pattern).matcher(code);
        while (matcher.find()) {
            all.add(matcher.group());
        }
        return all;
    }

    /** What the group of the pattern says somewhere and the set does not hold. */
    private static List<String> others(String code, String pattern, Set<String> allowed) {
        List<String> all = new ArrayList<>();
        Matcher matcher = Pattern.compile(pattern).matcher(code);
        while (matcher.find()) {
            if (!allowed.contains(matcher.group(1))) {
                all.add(matcher.group(1));
            }
        }
        return all;
    }
}

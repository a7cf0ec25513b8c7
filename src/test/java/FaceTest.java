import java.lang.reflect.Constructor;
import java.lang.reflect.Field;
import java.lang.reflect.Method;
import java.lang.reflect.Modifier;
import java.util.ArrayList;
import java.util.Arrays;
import java.util.Collections;
import java.util.List;

/** The class has the face of the document, and no member beside it that others could reach. */
public final class FaceTest {
    private static final String[] METHODS = {
        "int append(int,int,int,int,int)",
        "boolean truncate(int)",
        "int bufferLength()",
        "int read()",
        "int find()",
        "int line(int)",
        "int setting(int) IndexOutOfBoundsException",
        "int station(int,int) IndexOutOfBoundsException IllegalArgumentException",
        "int mass(int,int) IllegalArgumentException IndexOutOfBoundsException",
        "int bale(int,int) IndexOutOfBoundsException IllegalArgumentException",
        "int buyer(int,int) IndexOutOfBoundsException IllegalArgumentException",
        "long balance(int)",
        "double purity(int) IndexOutOfBoundsException",
        "float loss()",
        "int load(int,int) IndexOutOfBoundsException IllegalArgumentException IllegalStateException",
        "int set(int,int) IndexOutOfBoundsException IllegalArgumentException",
        "int staff(int,int) IndexOutOfBoundsException IllegalArgumentException",
        "int run(int) IllegalArgumentException IllegalStateException",
        "int sell(int,int) IndexOutOfBoundsException IllegalArgumentException IllegalStateException",
        "int clean(int) IndexOutOfBoundsException",
        "int undo()",
        "int bestBuyer(int) IndexOutOfBoundsException",
        "int outlook(int,int) IllegalArgumentException",
        "int bestStaff(int,int) IndexOutOfBoundsException IllegalArgumentException",
        "int emptied()",
    };

    public static void main(String[] args) {
        Class<?> face = RecyclingLine.class;
        Checks.due("public and final", Modifier.isPublic(face.getModifiers()) && Modifier.isFinal(face.getModifiers()), true);
        List<String> due = new ArrayList<>(Arrays.asList(METHODS));
        List<String> there = new ArrayList<>();
        for (Method method : face.getDeclaredMethods()) {
            if (!Modifier.isPrivate(method.getModifiers())) {
                there.add(described(method));
            }
        }
        Collections.sort(due);
        Collections.sort(there);
        Checks.due("methods", there, due);
        for (Method method : face.getDeclaredMethods()) {
            boolean bearsPublicName = Arrays.stream(METHODS).anyMatch(m -> m.contains(" " + method.getName() + "("));
            Checks.due("public name of " + method, bearsPublicName, Modifier.isPublic(method.getModifiers()));
        }
        for (Field field : face.getDeclaredFields()) {
            Checks.due(field + " is private", Modifier.isPrivate(field.getModifiers()), !field.getName().equals("NONE"));
        }
        Constructor<?>[] makers = face.getDeclaredConstructors();
        Checks.due("constructors", makers.length, 1);
        Checks.due("its arguments", makers[0].getParameterCount(), 0);
        Checks.due("it is public", Modifier.isPublic(makers[0].getModifiers()), true);
        for (Class<?> inside : face.getDeclaredClasses()) {
            Checks.due(inside + " is static", Modifier.isStatic(inside.getModifiers()), true);
            Checks.due(inside + " is not public", Modifier.isPublic(inside.getModifiers()), false);
        }
        Checks.finish();
    }

    private static String described(Method method) {
        StringBuilder all = new StringBuilder(method.getReturnType().getSimpleName() + " " + method.getName() + "(");
        for (int i = 0; i < method.getParameterCount(); i++) {
            all.append(i == 0 ? "" : ",").append(method.getParameterTypes()[i].getSimpleName());
        }
        all.append(")");
        for (Class<?> thrown : method.getExceptionTypes()) {
            all.append(" ").append(thrown.getSimpleName());
        }
        return all.toString();
    }
}

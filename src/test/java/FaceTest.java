import java.lang.reflect.Constructor;
import java.lang.reflect.Member;
import java.lang.reflect.Method;
import java.lang.reflect.Modifier;
import java.util.ArrayList;
import java.util.Arrays;
import java.util.List;
import java.util.TreeSet;

/** The public face is that of the document, and nothing else. */
final class FaceTest {
    private static final String[] FACE = {
        "int advise(int) IllegalArgumentException",
        "int count(int) IndexOutOfBoundsException",
        "long digest()",
        "int foresee(int, int) IllegalArgumentException IndexOutOfBoundsException",
        "int glides(int) IndexOutOfBoundsException",
        "int lay(int, int) IllegalArgumentException",
        "double mean()",
        "int pass(int) IllegalArgumentException",
        "int period(int) IndexOutOfBoundsException",
        "int plant(int, int, int, int) IndexOutOfBoundsException IllegalStateException",
        "boolean setEdge(boolean)",
        "int setRules(int, int) IllegalArgumentException",
        "int told(int, int, int) IndexOutOfBoundsException",
        "int turn(int, int) IndexOutOfBoundsException",
        "int way(int, int, int, int) IndexOutOfBoundsException",
    };

    public static void main(String[] args) {
        Class<?> face = HedgeGliders.class;
        Check.due("public and final", Modifier.PUBLIC | Modifier.FINAL, face.getModifiers());
        TreeSet<String> got = new TreeSet<>();
        TreeSet<String> privateNames = new TreeSet<>();
        for (Method method : face.getDeclaredMethods()) {
            if (!Modifier.isPrivate(method.getModifiers())) {
                got.add(signature(method));
            } else {
                privateNames.add(method.getName());
            }
        }
        Check.due("methods", new TreeSet<>(Arrays.asList(FACE)).toString(), got.toString());
        for (String line : FACE) {
            String name = line.substring(line.indexOf(' ') + 1, line.indexOf('('));
            Check.due("a private method named " + name, 0, privateNames.contains(name) ? 1 : 0);
        }
        hidesTheRest(face);
        Check.end();
    }

    private static void hidesTheRest(Class<?> face) {
        List<String> seen = new ArrayList<>();
        for (Member field : face.getDeclaredFields()) {
            if (!Modifier.isPrivate(field.getModifiers())) {
                seen.add(field.getName());
            }
        }
        for (Class<?> inside : face.getDeclaredClasses()) {
            if (!Modifier.isStatic(inside.getModifiers()) || Modifier.isPublic(inside.getModifiers())) {
                seen.add(inside.getSimpleName());
            }
        }
        Check.due("fields and classes that are seen", "[]", seen.toString());
        Constructor<?>[] constructors = face.getDeclaredConstructors();
        Check.due("constructors", 1, constructors.length);
        Check.due("constructor", "public HedgeGliders()", constructors[0].toString());
    }

    private static String signature(Method method) {
        StringBuilder text = new StringBuilder(method.getReturnType() + " " + method.getName());
        String kinds = Arrays.toString(method.getParameterTypes());
        text.append('(').append(kinds, 1, kinds.length() - 1).append(')');
        for (Class<?> thrown : method.getExceptionTypes()) {
            text.append(' ').append(thrown.getSimpleName());
        }
        return text.toString();
    }
}

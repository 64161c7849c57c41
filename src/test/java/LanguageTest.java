import java.io.IOException;
import java.lang.reflect.Field;
import java.lang.reflect.Method;
import java.lang.reflect.Modifier;
import java.nio.charset.StandardCharsets;
import java.nio.file.Files;
import java.nio.file.Path;
import java.util.ArrayList;
import java.util.List;
import java.util.Set;
import java.util.regex.Matcher;
import java.util.regex.Pattern;

/**
 * What of ../shared/LANGUAGE.md can be seen in the program's text and in its classes, by the rules' numbers.
 * Some of it is closer than the rules are, as the program needs no more: no try, no object but at first.
 */
final class LanguageTest {
    private static final Path PROGRAM = Path.of("src", "main", "java", "HedgeGliders.java");
    private static final Set<String> FACE = Set.of("lay", "setRules", "setEdge", "turn", "plant", "pass", "told", "count",
        "way", "period", "glides", "foresee", "advise", "mean", "digest");
    private static final Set<String> LIBRARY = Set.of("Long.bitCount", "Math.max");
    private static final String[][] UNSEEN = {
        {"0", "\\bpackage\\b"}, {"4", "\\bimport\\b"}, {"2", "->|::"}, {"5", "static\\s*\\{"},
        {"6", "\\b(finally|synchronized|assert|catch|try)\\b"}, {"13", "\\b(System|Thread|Random|java\\.)\\b"},
        {"3", "\\b(var|Object|Math\\.(sqrt|pow|floor))\\b"}, {"6", "\\.(equals|hashCode|toString|getClass)\\("},
    };

    public static void main(String[] args) throws IOException {
        String text = Files.readString(PROGRAM, StandardCharsets.ISO_8859_1);
        textIsPlain(text);
        String code = withoutCommentsAndTexts(text);
        for (String[] pair : UNSEEN) {
            Check.due("rule " + pair[0] + ": " + pair[1], "", found(pair[1], code));
        }
        usesOnlyItsLibrary(code);
        makesObjectsOnlyOnce(code);
        List<Class<?>> classes = new ArrayList<>(List.of(HedgeGliders.class.getDeclaredClasses()));
        Check.due("rule 11: twelve classes at most", 1, classes.size() < 12 ? 1 : 0);
        classes.add(HedgeGliders.class);
        for (Class<?> one : classes) {
            fieldsAreFewAndPlain(one);
            methodsAreSmallAndPrivate(one);
        }
        Check.end();
    }

    private static void textIsPlain(String text) {
        boolean plain = text.chars().allMatch(sign -> sign == '\n' || sign >= 32 && sign < 127);
        Check.due("rule 4: signs are plain", 1, plain ? 1 : 0);
    }

    private static String withoutCommentsAndTexts(String text) {
        return text.replaceAll("(?s)/\\*.*?\\*/", " ").replaceAll("//[^\n]*", " ").replaceAll("\"[^\"\n]*\"", "\"\"");
    }

    private static String found(String pattern, String code) {
        Matcher matcher = Pattern.compile(pattern).matcher(code);
        return matcher.find() ? matcher.group() : "";
    }

    private static void usesOnlyItsLibrary(String code) {
        Matcher call = Pattern.compile("\\b(?:Math|Long|Integer|Arrays|String|List)\\.\\w+").matcher(code);
        while (call.find()) {
            Check.due("rule 4: " + call.group(), 1, LIBRARY.contains(call.group()) ? 1 : 0);
        }
    }

    /** All objects are made with the program's own one, but the exceptions: so no run of calls fills the room. */
    private static void makesObjectsOnlyOnce(String code) {
        for (String line : code.split("\n")) {
            if (line.matches(".*\\bnew\\b.*")) {
                boolean field = line.strip().startsWith("private final ");
                boolean exception = line.strip().matches("throw new Il?[A-Za-z]+Exception\\(\"\"\\);");
                Check.due("rule 12: " + line.strip(), 1, field || exception ? 1 : 0);
            }
        }
    }

    private static void fieldsAreFewAndPlain(Class<?> one) {
        int fields = 0;
        for (Field field : one.getDeclaredFields()) {
            boolean isStatic = Modifier.isStatic(field.getModifiers());
            fields += isStatic ? 0 : 1;
            String at = one.getSimpleName() + "." + field.getName();
            Check.due("rule 5: " + at, 1, !isStatic || Modifier.isFinal(field.getModifiers()) ? 1 : 0);
            Check.due("rule 3: " + at, 1, isKind(field.getType()) ? 1 : 0);
        }
        Check.due("rule 11: fields of " + one.getSimpleName(), 1, fields <= 20 ? 1 : 0);
        boolean right = one == HedgeGliders.class || Modifier.isStatic(one.getModifiers());
        Check.due("rule 1: " + one.getSimpleName() + " is static", 1, right ? 1 : 0);
    }

    private static void methodsAreSmallAndPrivate(Class<?> one) {
        for (Method method : one.getDeclaredMethods()) {
            String at = one.getSimpleName() + "." + method.getName();
            boolean isFace = one == HedgeGliders.class && Modifier.isPublic(method.getModifiers());
            Check.due("rule 1: " + at + "'s name", 1, isFace == FACE.contains(method.getName()) ? 1 : 0);
            Check.due("rule 11: " + at + "'s parameters", 1, method.getParameterCount() <= 7 ? 1 : 0);
            Check.due("rule 3: what " + at + " answers", 1, isKind(method.getReturnType()) ? 1 : 0);
            for (Class<?> kind : method.getParameterTypes()) {
                Check.due("rule 3: what " + at + " takes", 1, isKind(kind) ? 1 : 0);
            }
        }
    }

    private static boolean isKind(Class<?> kind) {
        Class<?> part = kind.isArray() ? kind.getComponentType() : kind;
        return part.isPrimitive() || part == String.class || part.getEnclosingClass() == HedgeGliders.class;
    }
}

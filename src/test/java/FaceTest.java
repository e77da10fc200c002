import java.lang.reflect.Constructor;
import java.lang.reflect.Field;
import java.lang.reflect.Method;
import java.lang.reflect.Modifier;
import java.util.Map;
import java.util.Set;
import java.util.TreeMap;
import java.util.TreeSet;

/** The public face: just the document's members, and every other member private. */
public final class FaceTest {
    private static final Map<String, Integer> FACE = new TreeMap<>(Map.ofEntries(
        Map.entry("size", 2), Map.entry("mark", 4), Map.entry("step", 3), Map.entry("weave", 2),
        Map.entry("mirror", 2), Map.entry("scale", 3), Map.entry("states", 1),
        Map.entry("weight", 2), Map.entry("equivalent", 2), Map.entry("difference", 2),
        Map.entry("rank", 1), Map.entry("total", 2), Map.entry("first", 1),
        Map.entry("isSum", 3)));

    public static void main(String[] args) {
        Class<?> face = WeightedWords.class;
        int bits = face.getModifiers();
        Due.same("public and final", Modifier.isPublic(bits) && Modifier.isFinal(bits), true);
        Due.same("nested classes", face.getDeclaredClasses().length, 0);
        constructors(face);
        methods(face);
        fields(face);
        Due.end();
    }

    private static void constructors(Class<?> face) {
        Constructor<?>[] made = face.getDeclaredConstructors();
        Due.same("constructors", made.length, 1);
        Due.same("constructor's parameters", made[0].getParameterCount(), 0);
        Due.same("constructor public", Modifier.isPublic(made[0].getModifiers()), true);
    }

    private static void methods(Class<?> face) {
        Map<String, Integer> open = new TreeMap<>();
        Set<String> closed = new TreeSet<>();
        for (Method method : face.getDeclaredMethods()) {
            if (Modifier.isPrivate(method.getModifiers())) {
                closed.add(method.getName());
                continue;
            }
            open.put(method.getName(), method.getParameterCount());
            Due.same(method + " public", Modifier.isPublic(method.getModifiers()), true);
            Due.same(method + " static", Modifier.isStatic(method.getModifiers()), false);
            Due.same(method + " answers", method.getReturnType(), int.class);
            for (Class<?> type : method.getParameterTypes()) {
                Due.same(method + " takes", type, int.class);
            }
        }
        Due.same("methods that are not private", open, FACE);
        closed.retainAll(FACE.keySet());
        Due.same("private methods named as public ones", closed.toString(), "[]");
    }

    private static void fields(Class<?> face) {
        for (Field field : face.getDeclaredFields()) {
            int bits = field.getModifiers();
            Due.same(field + " private", Modifier.isPrivate(bits), true);
            if (Modifier.isStatic(bits)) {
                Due.same(field + " final", Modifier.isFinal(bits), true);
                Due.same(field + " int or long",
                    field.getType() == int.class || field.getType() == long.class, true);
            }
        }
    }
}

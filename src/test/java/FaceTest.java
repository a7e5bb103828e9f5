import java.io.IOException;
import java.lang.reflect.Field;
import java.lang.reflect.Member;
import java.lang.reflect.Method;
import java.lang.reflect.Modifier;
import java.util.Map;
import java.util.Set;
import java.util.TreeMap;
import java.util.TreeSet;

/** The public face of the document, and nothing beside it (rules 1, 2 and 5 of ../shared/LANGUAGE.md). */
final class FaceTest {
    /** Each method with the number of its parameters, which are all int. */
    private static final Map<String, Integer> METHODS = new TreeMap<>(Map.ofEntries(
        Map.entry("make", 0), Map.entry("append", 3), Map.entry("write", 3), Map.entry("set", 3),
        Map.entry("resize", 2), Map.entry("operate", 4), Map.entry("not", 1), Map.entry("shift", 2),
        Map.entry("undo", 0), Map.entry("type", 1), Map.entry("clearText", 0), Map.entry("evaluate", 1),
        Map.entry("failure", 1), Map.entry("count", 1), Map.entry("row", 2), Map.entry("word", 2),
        Map.entry("bit", 2), Map.entry("rank", 2), Map.entry("select", 2), Map.entry("would", 4),
        Map.entry("same", 1), Map.entry("bestShift", 1)));
    private static final Map<String, Integer> CONSTANTS =
        new TreeMap<>(Map.of("INVALID_ARGUMENT", -1, "ILLEGAL_STATE", -2, "CAPACITY_EXCEEDED", -3, "NONE", -9));

    public static void main(String[] args) throws IOException, ReflectiveOperationException {
        Document document = new Document();
        Due.holds("the methods that the document tells", document.methods().equals(METHODS));
        Due.holds("the constants that the document tells", document.constants().equals(CONSTANTS));
        Due.that("modifiers", PackedBits.class.getModifiers(), Modifier.PUBLIC | Modifier.FINAL);
        Due.that("constructors", PackedBits.class.getDeclaredConstructors().length, 1);
        methods();
        fields();
        classesInside();
        Due.finish("FaceTest");
    }

    private static boolean isHidden(Member member) {
        return Modifier.isPrivate(member.getModifiers()) || member.isSynthetic();
    }

    private static void methods() {
        Set<String> seen = new TreeSet<>();
        for (Method method : PackedBits.class.getDeclaredMethods()) {
            String name = method.getName();
            if (isHidden(method)) {
                Due.holds("no private method " + name, !METHODS.containsKey(name));
                continue;
            }
            Due.holds("one public method " + name, seen.add(name));
            Due.holds(name + " is public and not static", method.getModifiers() == Modifier.PUBLIC);
            Due.holds(name + " answers an int", method.getReturnType() == int.class);
            Due.that("parameters of " + name, method.getParameterCount(), METHODS.getOrDefault(name, -1));
            for (Class<?> parameter : method.getParameterTypes()) {
                Due.holds(name + " takes an int", parameter == int.class);
            }
        }
        Due.holds("all methods", seen.equals(METHODS.keySet()));
    }

    private static void fields() throws IllegalAccessException {
        int constants = Modifier.PUBLIC | Modifier.STATIC | Modifier.FINAL;
        Map<String, Integer> seen = new TreeMap<>();
        for (Field field : PackedBits.class.getDeclaredFields()) {
            if (!isHidden(field)) {
                seen.put(field.getName(), field.getInt(null));
                Due.that("modifiers of " + field.getName(), field.getModifiers(), constants);
            }
            staticIsFinal(field);
        }
        Due.holds("all constants", seen.equals(CONSTANTS));
    }

    private static void staticIsFinal(Field field) {
        int modifiers = field.getModifiers();
        Due.holds(field + " is final if static", !Modifier.isStatic(modifiers) || Modifier.isFinal(modifiers));
    }

    private static void classesInside() {
        Due.holds("at most twelve classes", PackedBits.class.getDeclaredClasses().length < 12);
        for (Class<?> inside : PackedBits.class.getDeclaredClasses()) {
            Due.holds(inside + " is static", Modifier.isStatic(inside.getModifiers()));
            Due.holds(inside + " is not open", (inside.getModifiers() & (Modifier.PUBLIC | Modifier.PROTECTED)) == 0);
            for (Field field : inside.getDeclaredFields()) {
                staticIsFinal(field);
            }
            for (Method method : inside.getDeclaredMethods()) {
                Due.holds(method + " has a name of its own", !METHODS.containsKey(method.getName()));
            }
        }
    }
}

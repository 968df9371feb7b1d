import java.lang.reflect.Constructor;
import java.lang.reflect.Field;
import java.lang.reflect.Member;
import java.lang.reflect.Method;
import java.lang.reflect.Modifier;
import java.util.Arrays;
import java.util.Set;
import java.util.TreeMap;
import java.util.Map;
import java.util.TreeSet;

/** The public face: the members of the document, and no other that is not private. */
final class FaceTest {
    /** The names of the methods, each with the number of its parameters. */
    private static final String METHODS = "newImage 2 setPixel 3 fillRectangle 5 size 1 addLayer 3 setParameters 3 "
        + "setBlend 3 setEnabled 2 moveLayer 2 duplicateLayer 1 removeLayer 1 flatten 1 layer 2 setMask 6 setFeather 2 "
        + "invertMask 1 dab 4 maskValue 3 append 1 clearText 0 loadStack 0 pixel 3 prefetch 1 setCacheLimit 1 "
        + "setTileSize 1 clearCache 0 isCached 3 cachedTiles 1 counter 1 oldestTile 0 histogram 3 sum 1 effect 1 "
        + "strongestLayer 0 exchangeDifference 1 snapshotDifference 1 undo 0 save 1 restore 1";

    private FaceTest() {
    }

    public static void main(String[] args) {
        Class<?> face = AdjustmentStack.class;
        Check.holds("the class is public and final",
            Modifier.isPublic(face.getModifiers()) && Modifier.isFinal(face.getModifiers()));
        constants();
        constructors(face);
        methods(face);
        fields(face);
        innerClasses(face);
        Check.end();
    }

    private static void constants() {
        Check.due("INVALID_ARGUMENT", AdjustmentStack.INVALID_ARGUMENT, -1001);
        Check.due("ILLEGAL_STATE", AdjustmentStack.ILLEGAL_STATE, -1002);
        Check.due("CAPACITY_EXCEEDED", AdjustmentStack.CAPACITY_EXCEEDED, -1003);
        Check.due("NONE", AdjustmentStack.NONE, -1009);
    }

    private static void constructors(Class<?> face) {
        Constructor<?>[] all = face.getDeclaredConstructors();
        Check.due("constructors", all.length, 1);
        Check.holds("the constructor is public, without parameters",
            isPublic(all[0]) && all[0].getParameterCount() == 0);
    }

    private static boolean isPublic(Member member) {
        return Modifier.isPublic(member.getModifiers());
    }

    private static boolean isPrivate(Member member) {
        return Modifier.isPrivate(member.getModifiers());
    }

    private static void methods(Class<?> face) {
        Map<String, Integer> wanted = new TreeMap<>();
        String[] words = METHODS.split(" ");
        for (int i = 0; i < words.length; i += 2) {
            wanted.put(words[i], Integer.valueOf(words[i + 1]));
        }
        Map<String, Integer> present = new TreeMap<>();
        for (Method method : face.getDeclaredMethods()) {
            String name = method.getName();
            Check.holds(name + " is public or private", isPublic(method) || isPrivate(method));
            Check.holds(name + " has one meaning", isPublic(method) == wanted.containsKey(name));
            if (isPublic(method)) {
                Check.holds(name + " occurs once", !present.containsKey(name));
                present.put(name, method.getParameterCount());
                Check.holds(name + " is about int", method.getReturnType() == int.class
                    && Arrays.stream(method.getParameterTypes()).allMatch(type -> type == int.class)
                    && !Modifier.isStatic(method.getModifiers()));
            }
        }
        Check.holds("the methods are those of the document: " + present, present.equals(wanted));
    }

    private static void fields(Class<?> face) {
        Set<String> shown = new TreeSet<>();
        for (Field field : face.getDeclaredFields()) {
            if (isPrivate(field)) {
                continue;
            }
            shown.add(field.getName());
            Check.holds(field.getName() + " is a constant", isPublic(field) && field.getType() == int.class
                && Modifier.isStatic(field.getModifiers()) && Modifier.isFinal(field.getModifiers()));
        }
        Set<String> wanted = Set.of("INVALID_ARGUMENT", "ILLEGAL_STATE", "CAPACITY_EXCEEDED", "NONE");
        Check.holds("the constants are those of the document: " + shown, shown.equals(wanted));
    }

    private static void innerClasses(Class<?> face) {
        for (Class<?> inner : face.getDeclaredClasses()) {
            int modifiers = inner.getModifiers();
            Check.holds(inner.getName() + " is static and not public", Modifier.isStatic(modifiers)
                && !Modifier.isPublic(modifiers) && !Modifier.isProtected(modifiers));
            for (Method method : inner.getDeclaredMethods()) {
                boolean borrowed = Arrays.stream(face.getDeclaredMethods())
                    .anyMatch(other -> isPublic(other) && other.getName().equals(method.getName()));
                Check.holds(method + " has a name of its own", !borrowed);
            }
            for (Field field : inner.getDeclaredFields()) {
                boolean changing = Modifier.isStatic(field.getModifiers()) && !Modifier.isFinal(field.getModifiers());
                Check.holds(field + " is no changing static", !changing);
            }
        }
    }
}

import java.lang.reflect.Constructor;
import java.lang.reflect.Field;
import java.lang.reflect.Method;
import java.lang.reflect.Modifier;
import java.util.Set;
import java.util.TreeSet;

/** The public face: the document's members with their types, and no other that can be seen from outside. */
public final class FaceTest {
    private static final String[] FACE = {
        "public static final int FILL_MAX = 64",
        "public static final int KEY_ERROR = -1",
        "public static final int KEY_INT = 0",
        "public static final int KEY_NONE = 2",
        "public static final int KEY_SYM = 1",
        "public static final int MAX_CAP = 32",
        "public static final int MAX_NAME = 8",
        "public static final int MAX_SYMBOLS = 16",
        "public static final int MIN_CAP = 4",
        "public HybridTables(int)",
        "public boolean HybridTables.set(int,int,int)",
        "public boolean HybridTables.symbolChar(char)",
        "public char HybridTables.symbolCharAt(int,int)",
        "public int HybridTables.append(int)",
        "public int HybridTables.count()",
        "public int HybridTables.fill(int,int,int)",
        "public int HybridTables.get(int,int)",
        "public int HybridTables.lastKey()",
        "public int HybridTables.lastValue()",
        "public int HybridTables.length()",
        "public int HybridTables.next(int,int)",
        "public int HybridTables.purgeBelow(int)",
        "public int HybridTables.symbolCount()",
        "public int HybridTables.symbolEnd()",
        "public int HybridTables.symbolLength(int)",
        "public void HybridTables.clear()",
    };

    public static void main(String[] args) throws IllegalAccessException {
        Set<String> want = new TreeSet<>(Set.of(FACE));
        Set<String> got = new TreeSet<>();
        Set<String> publicNames = new TreeSet<>();
        for (Field field : HybridTables.class.getDeclaredFields()) {
            if (!Modifier.isPrivate(field.getModifiers())) {
                got.add(Modifier.toString(field.getModifiers()) + " " + field.getType() + " " + field.getName()
                        + " = " + field.getInt(null));
            }
        }
        for (Constructor<?> made : HybridTables.class.getDeclaredConstructors()) {
            got.add(made.toString());
        }
        for (Method method : HybridTables.class.getDeclaredMethods()) {
            if (!Modifier.isPrivate(method.getModifiers())) {
                got.add(method.toString());
                publicNames.add(method.getName());
            }
        }
        Checks.due("the face", got.toString(), want.toString());
        for (Method method : HybridTables.class.getDeclaredMethods()) {
            boolean hidden = Modifier.isPrivate(method.getModifiers());
            Checks.due("private " + method.getName() + " has a public name",
                    hidden && publicNames.contains(method.getName()), false);
        }
        Checks.due("public final class", Modifier.toString(HybridTables.class.getModifiers()), "public final");
        Checks.due("nested classes", HybridTables.class.getDeclaredClasses().length, 0);
        Checks.end();
    }
}

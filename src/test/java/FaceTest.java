import java.lang.reflect.Constructor;
import java.lang.reflect.Field;
import java.lang.reflect.Method;
import java.lang.reflect.Modifier;
import java.util.Set;
import java.util.TreeSet;

/** The class shows the document's public face and nothing else. */
public final class FaceTest {
    private static final Set<String> FACE = Set.of(
            "public static final int BAD_PATTERN = -1",
            "public static final int OVERLAP = -2",
            "public static final int FULL = -3",
            "public static final int NO_PATTERN = -4",
            "public static final int BAD_FIELD = -5",
            "public static final int BAD_VALUE = -6",
            "public static final int BAD_WORD = -7",
            "public static final int NONE = -8",
            "public PatternTableIsa()",
            "public int PatternTableIsa.add(int,int)",
            "public int PatternTableIsa.field(int,int,int,boolean)",
            "public int PatternTableIsa.dropLast()",
            "public int PatternTableIsa.begin(int)",
            "public int PatternTableIsa.operand(int,int)",
            "public int PatternTableIsa.decode(int)",
            "public int PatternTableIsa.value(int,int)",
            "public int PatternTableIsa.holes()",
            "public int PatternTableIsa.nextHole(int)",
            "public int PatternTableIsa.covered(int,int,int)",
            "public int PatternTableIsa.nextWord(int,int)");

    public static void main(String[] args) throws IllegalAccessException {
        Set<String> shown = shownMembers();
        Set<String> missing = new TreeSet<>(FACE);
        missing.removeAll(shown);
        Set<String> extra = new TreeSet<>(shown);
        extra.removeAll(FACE);
        missing.forEach(member -> System.out.println("missing: " + member));
        extra.forEach(member -> System.out.println("not in the document: " + member));
        boolean classIsRight = PatternTableIsa.class.getModifiers() == (Modifier.PUBLIC | Modifier.FINAL);
        if (!classIsRight) {
            System.out.println("the class is not public and final");
        }
        if (!missing.isEmpty() || !extra.isEmpty() || !classIsRight) {
            System.exit(1);
        }
        System.out.println("the public face is the document's");
    }

    private static Set<String> shownMembers() throws IllegalAccessException {
        Set<String> shown = new TreeSet<>();
        for (Field field : PatternTableIsa.class.getDeclaredFields()) {
            if (!Modifier.isPrivate(field.getModifiers())) {
                String head = Modifier.toString(field.getModifiers()) + " " + field.getType() + " " + field.getName();
                shown.add(Modifier.isStatic(field.getModifiers()) ? head + " = " + field.get(null) : head);
            }
        }
        for (Constructor<?> constructor : PatternTableIsa.class.getDeclaredConstructors()) {
            if (!Modifier.isPrivate(constructor.getModifiers())) {
                shown.add(constructor.toString());
            }
        }
        for (Method method : PatternTableIsa.class.getDeclaredMethods()) {
            if (!Modifier.isPrivate(method.getModifiers())) {
                shown.add(method.toString());
            }
        }
        return shown;
    }
}

import java.lang.reflect.Constructor;
import java.lang.reflect.Field;
import java.lang.reflect.Method;
import java.lang.reflect.Modifier;
import java.util.HashSet;
import java.util.List;
import java.util.Set;
import java.util.TreeSet;

/** The class shows the face that the document tells and nothing more. */
public final class FaceTest {
    private static final Set<String> FACE = new TreeSet<>(List.of(
        "public static final int NONE",
        "public static final int FULL",
        "public BooleanBasis()",
        "public int add(int)",
        "public boolean remove(int)",
        "public int generators()",
        "public int product(int,int)",
        "public int value(int,int)",
        "public boolean contains(int)",
        "public int rest(int)",
        "public int basisSize()",
        "public int basisAt(int)",
        "public int bound()",
        "public int zeros()",
        "public int zeroCount()",
        "public int values(int)",
        "public boolean redundant(int)",
        "public boolean relates(int)"));

    private static final Set<Class<?>> NUMBERS = Set.of(
        int.class, long.class, short.class, byte.class, char.class, boolean.class);

    private static final Due DUE = new Due();

    public static void main(String[] args) {
        Class<?> program = BooleanBasis.class;
        DUE.is("modifiers of the class", program.getModifiers(), Modifier.PUBLIC | Modifier.FINAL);
        DUE.is("nested classes", program.getDeclaredClasses().length, 0);
        checkFace(program);
        checkFields(program);
        checkPrivateNames(program);
        DUE.end();
    }

    private static void checkFace(Class<?> program) {
        Set<String> shown = new TreeSet<>();
        for (Field field : program.getDeclaredFields()) {
            show(shown, field.getModifiers(), field.toString());
        }
        for (Method method : program.getDeclaredMethods()) {
            show(shown, method.getModifiers(), method.toString());
        }
        for (Constructor<?> constructor : program.getDeclaredConstructors()) {
            show(shown, constructor.getModifiers(), constructor.toString());
        }
        for (String member : FACE) {
            DUE.is("is there: " + member, shown.contains(member), true);
        }
        for (String member : shown) {
            DUE.is("is in the document: " + member, FACE.contains(member), true);
        }
    }

    private static void show(Set<String> shown, int modifiers, String text) {
        if (!Modifier.isPrivate(modifiers)) {
            shown.add(text.replace("BooleanBasis.", ""));
        }
    }

    private static void checkFields(Class<?> program) {
        for (Field field : program.getDeclaredFields()) {
            Class<?> type = field.getType();
            if (Modifier.isStatic(field.getModifiers())) {
                boolean constant = Modifier.isFinal(field.getModifiers()) && (type == int.class || type == long.class);
                DUE.is("a constant of int or long: " + field.getName(), constant, true);
            } else {
                Class<?> element = type.isArray() ? type.getComponentType() : type;
                DUE.is("of numbers: " + field.getName(), NUMBERS.contains(element), true);
            }
        }
    }

    private static void checkPrivateNames(Class<?> program) {
        Set<String> publicNames = new HashSet<>();
        for (Method method : program.getDeclaredMethods()) {
            if (Modifier.isPublic(method.getModifiers())) {
                publicNames.add(method.getName());
            }
        }
        for (Method method : program.getDeclaredMethods()) {
            if (Modifier.isPrivate(method.getModifiers())) {
                boolean taken = publicNames.contains(method.getName());
                DUE.is("bears the name of a public method: " + method.getName(), taken, false);
            }
        }
    }
}

import java.lang.reflect.Constructor;
import java.lang.reflect.Field;
import java.lang.reflect.Method;
import java.lang.reflect.Modifier;
import java.util.Arrays;
import java.util.List;
import java.util.Set;
import java.util.TreeSet;
import java.util.stream.Collectors;

/** The document's section "The public face", and the rules of the language that show in the compiled class. */
public final class PublicFaceTest {
    private static final Checks CHECKS = new Checks();
    private static final Class<?> TYPE = GopVideoCodec.class;

    private static final Set<String> CONSTANTS = Set.of(
            "MAX_FRAMES = 8", "NONE = -1", "NO_VECTOR = 127", "PHASE_LOADING = 0", "PHASE_CODED = 1",
            "TYPE_I = 0", "TYPE_P = 1", "TYPE_B = 2",
            "MODE_INTRA = 0", "MODE_FORWARD = 1", "MODE_BACKWARD = 2", "MODE_BI = 3",
            "PLANE_INPUT = 0", "PLANE_RECON = 1", "PLANE_OUTPUT = 2",
            "STATUS_FRAMES = 0", "STATUS_PHASE = 1", "STATUS_DECODED = 2", "STATUS_OUTPUT = 3",
            "STATUS_QUANT = 4", "STATUS_RANGE = 5", "STATUS_BFRAMES = 6");

    private static final Set<String> METHODS = Set.of(
            "void reset()", "int appendGradient(int, int, int)", "int appendTexture(int)",
            "int appendMoved(int, int, int, int)", "boolean setPixel(int, int, int, int)", "int encode()",
            "int decodeNext()", "int status(int)", "int frameType(int)", "int codingOrder(int)",
            "int blockMode(int, int)", "int blockVector(int, int, int, int)", "int nonZero(int, int)",
            "int pixel(int, int, int, int)", "int outputFrame(int)");

    private static final Set<Class<?>> ALLOWED = Set.of(
            int.class, long.class, short.class, byte.class, char.class, boolean.class,
            int[].class, long[].class, short[].class, byte[].class, char[].class, boolean[].class);

    private static void same(String what, Set<String> got, Set<String> want) {
        boolean same = got.equals(want);
        CHECKS.due(what + " as in the document?", same, true);
        if (!same) {
            System.out.println("  got " + new TreeSet<>(got) + "\n  due " + new TreeSet<>(want));
        }
    }

    private static String typesOf(Class<?>[] types) {
        return Arrays.stream(types).map(Class::getName).collect(Collectors.joining(", ", "(", ")"));
    }

    private static int valueOf(Field constant) {
        try {
            return constant.getInt(null);
        } catch (IllegalAccessException unreadable) {
            throw new IllegalStateException(unreadable);
        }
    }

    private static void fields() {
        Set<String> visible = new TreeSet<>();
        int instanceFields = 0;
        for (Field field : TYPE.getDeclaredFields()) {
            int modifiers = field.getModifiers();
            if (Modifier.isPublic(modifiers)) {
                CHECKS.due(field + " is a constant?", Modifier.isStatic(modifiers) && Modifier.isFinal(modifiers)
                        && field.getType() == int.class, true);
                visible.add(field.getName() + " = " + valueOf(field));
            } else {
                CHECKS.due(field + " is private?", Modifier.isPrivate(modifiers), true);
            }
            if (Modifier.isStatic(modifiers)) {
                boolean isNumber = field.getType() == int.class || field.getType() == long.class;
                CHECKS.due(field + " is a constant number?", Modifier.isFinal(modifiers) && isNumber, true);
            } else {
                instanceFields++;
            }
            CHECKS.due(field + " has an allowed type?", ALLOWED.contains(field.getType()), true);
        }
        same("constants", visible, CONSTANTS);
        CHECKS.due(instanceFields + " fields beside the constants are at most 40?", instanceFields <= 40, true);
    }

    private static void methods() {
        Set<String> visible = new TreeSet<>();
        List<String> publicNames = Arrays.stream(TYPE.getDeclaredMethods())
                .filter(m -> Modifier.isPublic(m.getModifiers())).map(Method::getName).toList();
        for (Method method : TYPE.getDeclaredMethods()) {
            int modifiers = method.getModifiers();
            if (Modifier.isPublic(modifiers)) {
                visible.add(method.getReturnType() + " " + method.getName() + typesOf(method.getParameterTypes()));
                CHECKS.due(method + " is of the object?", Modifier.isStatic(modifiers), false);
            } else {
                CHECKS.due(method + " is private?", Modifier.isPrivate(modifiers), true);
                CHECKS.due(method + " has a public one's name?", publicNames.contains(method.getName()), false);
            }
            CHECKS.due(method + " has at most seven parameters?", method.getParameterCount() <= 7, true);
            CHECKS.due(method + " answers an array?", method.getReturnType().isArray(), false);
            CHECKS.due(method + " has no exceptions?", method.getExceptionTypes().length, 0);
            for (Class<?> type : method.getParameterTypes()) {
                CHECKS.due(method + " takes allowed types?", ALLOWED.contains(type), true);
            }
        }
        same("methods", visible, METHODS);
    }

    private static void constructors() {
        Set<String> constructors = new TreeSet<>();
        for (Constructor<?> constructor : TYPE.getDeclaredConstructors()) {
            constructors.add(Modifier.toString(constructor.getModifiers()) + typesOf(constructor.getParameterTypes()));
        }
        same("constructors", constructors, Set.of("public(int, int, int)"));
    }

    private static void oneClass() {
        CHECKS.due("is the class public?", Modifier.isPublic(TYPE.getModifiers()), true);
        CHECKS.due("is the class final?", Modifier.isFinal(TYPE.getModifiers()), true);
        CHECKS.due("has the class no package?", TYPE.getPackageName().isEmpty(), true);
        CHECKS.due("nested classes", TYPE.getDeclaredClasses().length, 0);
        CHECKS.due("interfaces", TYPE.getInterfaces().length, 0);
        CHECKS.due("extends Object alone?", TYPE.getSuperclass() == Object.class, true);
    }

    public static void main(String[] args) {
        CHECKS.sentence("public final class GopVideoCodec", PublicFaceTest::oneClass);
        CHECKS.sentence("public constants (all public static final int)", PublicFaceTest::fields);
        CHECKS.sentence("the public constructor", PublicFaceTest::constructors);
        CHECKS.sentence("the public methods and no other", PublicFaceTest::methods);
        CHECKS.finish();
    }
}

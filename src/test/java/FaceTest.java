import java.lang.reflect.Constructor;
import java.lang.reflect.Field;
import java.lang.reflect.Method;
import java.lang.reflect.Modifier;
import java.util.List;
import java.util.TreeSet;

/** The public face as the document writes it down, and what the rules 1, 2, 5 and 11 ask of the classes inside. */
public final class FaceTest extends Checks {
    private static final String SEGMENT = " throws IndexOutOfBoundsException";
    private static final String WHAT = SEGMENT + ", NoSuchElementException";
    private static final String POINT = " throws IllegalArgumentException";
    private static final String TWO = WHAT + ", IllegalArgumentException, IllegalStateException";

    private static final String[] METHODS = {
        "int feed(int, int, int, int, int)", "boolean end(int)", "int acts()" + POINT, "int fault()",
        "int add(int, int, int, int, int)" + POINT + ", IllegalStateException", "int cut(int)" + SEGMENT,
        "int move(int, int, int)" + SEGMENT + ", IllegalArgumentException",
        "int tint(int, int)" + SEGMENT + ", IllegalArgumentException", "int turn()",
        "int undo() throws IllegalStateException", "int segment(int, int)" + WHAT,
        "int how(int, int)" + SEGMENT + ", IllegalArgumentException", "long meet(int, int, int)" + TWO,
        "int along(int, int, int)" + TWO, "long crossing(int, int)" + WHAT, "long event(int, int)" + WHAT,
        "int status(int, int)" + SEGMENT, "int rank(int, int)" + SEGMENT, "int road(int, int)" + SEGMENT,
        "int view(int)", "int tied(int)" + SEGMENT, "int steps(int, int)" + SEGMENT,
        "int hull(int, boolean)" + SEGMENT, "int on(int, int)" + SEGMENT, "int at(int, int)" + POINT,
        "int next(int, int, boolean)" + POINT, "int over(int, int)" + POINT,
        "int sight(int, int, int, int)" + POINT, "int box(int, int, int, int)" + POINT,
        "int tinted(int, int)" + POINT, "void image()", "boolean back()", "int count(int)"};

    private FaceTest() {
    }

    public static void main(String[] args) {
        theClass();
        theConstant();
        theConstructor();
        theMethods();
        noPrivateMethodOfAPublicName();
        theClassesInside();
        for (Class<?> inside : CrossingSweep.class.getDeclaredClasses()) {
            fieldsOf(inside);
            parametersOf(inside);
        }
        fieldsOf(CrossingSweep.class);
        parametersOf(CrossingSweep.class);
        finish();
    }

    private static void theClass() {
        int modifiers = CrossingSweep.class.getModifiers();
        due(0, "modifiers of the class", Modifier.toString(modifiers), "public final");
        due(0, "its name, without a package", CrossingSweep.class.getName(), "CrossingSweep");
        due(0, "what it extends", CrossingSweep.class.getSuperclass().getName(), "java.lang.Object");
        due(0, "what it implements", CrossingSweep.class.getInterfaces().length, 0);
        due(0, "what it takes", CrossingSweep.class.getTypeParameters().length, 0);
    }

    private static void theConstant() {
        StringBuilder seen = new StringBuilder();
        for (Field field : CrossingSweep.class.getDeclaredFields()) {
            if (!Modifier.isPrivate(field.getModifiers())) {
                seen.append(Modifier.toString(field.getModifiers())).append(' ').append(field.getType());
                seen.append(' ').append(field.getName()).append(';');
            }
        }
        due(0, "fields that are not private", seen.toString(), "public static final int NONE;");
        due(0, "NONE", CrossingSweep.NONE, -1);
    }

    private static void theConstructor() {
        StringBuilder seen = new StringBuilder();
        for (Constructor<?> constructor : CrossingSweep.class.getDeclaredConstructors()) {
            seen.append(constructor.toGenericString()).append(';');
        }
        due(1, "constructors", seen.toString(), "public CrossingSweep();");
    }

    private static String told(Method method) {
        StringBuilder text = new StringBuilder();
        text.append(method.getReturnType().getSimpleName()).append(' ').append(method.getName());
        text.append('(').append(names(method.getParameterTypes())).append(')');
        if (method.getExceptionTypes().length > 0) {
            text.append(" throws ").append(names(method.getExceptionTypes()));
        }
        return text.toString();
    }

    private static String names(Class<?>[] types) {
        return String.join(", ", List.of(types).stream().map(Class::getSimpleName).toList());
    }

    private static void theMethods() {
        TreeSet<String> seen = new TreeSet<>();
        for (Method method : CrossingSweep.class.getDeclaredMethods()) {
            if (!Modifier.isPrivate(method.getModifiers())) {
                due(0, method + ": modifiers", Modifier.toString(method.getModifiers()), "public");
                seen.add(told(method));
            }
        }
        TreeSet<String> due = new TreeSet<>(List.of(METHODS));
        due(0, "methods of the face", due.size(), 33);
        for (String method : METHODS) {
            due(0, method + " is there", seen.contains(method), true);
        }
        seen.removeAll(due);
        due(0, "other methods", seen.toString(), "[]");
    }

    private static void noPrivateMethodOfAPublicName() {
        TreeSet<String> names = new TreeSet<>();
        for (Method method : CrossingSweep.class.getMethods()) {
            names.add(method.getName());
        }
        for (Method method : CrossingSweep.class.getDeclaredMethods()) {
            boolean isBoth = Modifier.isPrivate(method.getModifiers()) && names.contains(method.getName());
            due(0, "rule 1: private, of a public name: " + method, isBoth, false);
        }
    }

    private static void theClassesInside() {
        Class<?>[] inside = CrossingSweep.class.getDeclaredClasses();
        due(0, "rule 11: more than some twelve classes", inside.length > 12, false);
        for (Class<?> one : inside) {
            int modifiers = one.getModifiers();
            boolean isHidden = !Modifier.isPublic(modifiers) && !Modifier.isProtected(modifiers);
            due(0, "rule 1: " + one + " is private or package-visible", isHidden, true);
            due(0, "rule 1: " + one + " is static", Modifier.isStatic(modifiers), true);
        }
    }

    private static void fieldsOf(Class<?> type) {
        int own = 0;
        for (Field field : type.getDeclaredFields()) {
            if (Modifier.isStatic(field.getModifiers())) {
                due(0, "rule 5: " + field + " is final", Modifier.isFinal(field.getModifiers()), true);
                due(0, "rule 5: " + field + " is a number, a text", isPlain(field.getType()), true);
            } else {
                own++;
            }
        }
        due(0, "rule 11: more than some twenty fields in " + type, own > 20, false);
    }

    private static boolean isPlain(Class<?> type) {
        return List.of(int.class, long.class, boolean.class, char.class, String.class).contains(type);
    }

    private static void parametersOf(Class<?> type) {
        for (Method method : type.getDeclaredMethods()) {
            due(0, "rule 11: more than seven parameters: " + method, method.getParameterCount() > 7, false);
        }
    }
}

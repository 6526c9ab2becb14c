import java.lang.reflect.Constructor;
import java.lang.reflect.Field;
import java.lang.reflect.Method;
import java.lang.reflect.Modifier;
import java.util.Arrays;
import java.util.Set;
import java.util.TreeSet;

/** The face: all that the document lists, and nothing else that others can see. */
public final class FaceTests {
    private static final String[] METHODS = {
        "int provide(int, int)",
        "int mask(int, int, boolean)",
        "int define(int, int, int, int, int)",
        "int field(int, int, int, int)",
        "int method(int, int, int, int, int)",
        "int reference(int, int, int, int, int)",
        "int find(int, int)",
        "int load(int)",
        "int verdict(int)",
        "int select(int, int)",
        "boolean overrides(int, int)",
        "int gaps()",
        "int conflicts()",
        "int conflict(int, int)",
        "int faults()",
        "int count(int)",
    };
    private static final String[] CONSTANTS = {
        "REFUSED = -1", "FULL = -2", "NO_CLASS = -3", "CIRCULAR = -4", "INCOMPATIBLE = -5", "ILLEGAL = -6",
        "NO_MEMBER = -7", "INSTANCE = -8", "NO_CODE = -9", "UNLOADED = -10", "IS_PUBLIC = 1", "IS_FINAL = 2",
        "IS_ABSTRACT = 4", "IS_INTERFACE = 8", "PUBLIC = 0", "PROTECTED = 1", "PACKAGE = 2", "PRIVATE = 3",
        "STATIC = 4", "ABSTRACT = 8", "NEW = 0", "FIELD = 1", "FIELD_STATIC = 2", "CALL = 3", "CALL_STATIC = 4",
        "CALL_INTERFACE = 5",
    };
    private static int wrong = 0;

    public static void main(String[] args) throws IllegalAccessException {
        int modifiers = LinkAudit.class.getModifiers();
        same("public and final", "true", String.valueOf(Modifier.isPublic(modifiers) && Modifier.isFinal(modifiers)));
        same("methods", sorted(METHODS), visibleMethods());
        same("constants", sorted(CONSTANTS), visibleFields());
        same("constructors", "[LinkAudit()]", constructors());
        privateMethodsHaveOwnNames();
        System.out.println(wrong == 0 ? "the face is as due" : wrong + " parts of the face are not as due");
        if (wrong != 0) {
            System.exit(1);
        }
    }

    private static String sorted(String[] rows) {
        return new TreeSet<>(Arrays.asList(rows)).toString();
    }

    private static String types(Class<?>[] types) {
        StringBuilder text = new StringBuilder();
        for (Class<?> type : types) {
            text.append(text.length() == 0 ? "" : ", ").append(type.getSimpleName());
        }
        return text.toString();
    }

    private static String visibleMethods() {
        Set<String> rows = new TreeSet<>();
        for (Method method : LinkAudit.class.getDeclaredMethods()) {
            if (!Modifier.isPrivate(method.getModifiers())) {
                String mark = Modifier.isPublic(method.getModifiers()) ? "" : "not public: ";
                rows.add(mark + method.getReturnType().getSimpleName() + " " + method.getName()
                    + "(" + types(method.getParameterTypes()) + ")");
            }
        }
        return rows.toString();
    }

    private static String visibleFields() throws IllegalAccessException {
        Set<String> rows = new TreeSet<>();
        for (Field field : LinkAudit.class.getDeclaredFields()) {
            int modifiers = field.getModifiers();
            if (!Modifier.isPrivate(modifiers)) {
                boolean constant = Modifier.isPublic(modifiers) && Modifier.isStatic(modifiers)
                    && Modifier.isFinal(modifiers) && field.getType() == int.class;
                rows.add(constant ? field.getName() + " = " + field.getInt(null) : "no constant: " + field.getName());
            }
        }
        return rows.toString();
    }

    private static String constructors() {
        Set<String> rows = new TreeSet<>();
        for (Constructor<?> constructor : LinkAudit.class.getDeclaredConstructors()) {
            if (!Modifier.isPrivate(constructor.getModifiers())) {
                rows.add(constructor.getName() + "(" + types(constructor.getParameterTypes()) + ")");
            }
        }
        return rows.toString();
    }

    private static void privateMethodsHaveOwnNames() {
        Set<String> publicNames = new TreeSet<>();
        for (String row : METHODS) {
            publicNames.add(row.substring(row.indexOf(' ') + 1, row.indexOf('(')));
        }
        for (Class<?> inside : LinkAudit.class.getDeclaredClasses()) {
            for (Method method : inside.getDeclaredMethods()) {
                same(inside.getName() + "." + method.getName() + " bears a public name", "false",
                    String.valueOf(publicNames.contains(method.getName())));
            }
        }
    }

    private static void same(String what, String due, String got) {
        if (!due.equals(got)) {
            wrong++;
            System.out.println(what + ": got " + got + ", due is " + due);
        }
    }
}

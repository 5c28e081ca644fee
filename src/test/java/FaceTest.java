import java.lang.reflect.Constructor;
import java.lang.reflect.Field;
import java.lang.reflect.Method;
import java.lang.reflect.Modifier;
import java.util.Set;
import java.util.TreeSet;

/** The public face: the document's constants, constructor and methods, and no other member. */
public final class FaceTest {
    private static final Due due = new Due();
    private static final String[] METHODS = {
        "int setUp()", "int begin(int)", "int point(int, int, int, int, int)", "int pointAll(int, int)",
        "int close(int, int, int, int)", "int strike(int, int, int, int, boolean)", "int wipe(int, int, int)",
        "int clean(int)", "int setLimit(int)", "int centre(int, int, int)", "int setDistance(int, int)",
        "int type(char)", "int clearText()", "int undo()", "int keep()", "int restore()",
        "int pointing(int, int, int, int, int)", "int round(int, int, int)", "int reduced(int, int, int, int)",
        "int direction(int, int, int)", "int angle(int, int, int, boolean)", "int byAngles(int, int)",
        "int count(int)", "int centring(int, boolean)"
    };

    public static void main(String[] args) {
        constants();
        constructor();
        methods();
        classesInside();
        due.end();
    }

    private static void constants() {
        due.in("constants");
        due.of("UNKNOWN", FaceRounds.UNKNOWN, -2000001);
        due.of("BAD_VALUE", FaceRounds.BAD_VALUE, -2000002);
        due.of("FULL", FaceRounds.FULL, -2000003);
        due.of("NOT_POSSIBLE", FaceRounds.NOT_POSSIBLE, -2000004);
        due.of("NONE", FaceRounds.NONE, -2000005);
        int open = 0;
        for (Field field : FaceRounds.class.getDeclaredFields()) {
            int is = field.getModifiers();
            if (!Modifier.isPrivate(is)) {
                open++;
                boolean constant = Modifier.isPublic(is) && Modifier.isStatic(is) && Modifier.isFinal(is);
                due.of("public constant " + field.getName(), constant && field.getType() == int.class ? 1 : 0, 1);
            }
        }
        due.of("fields that are not private", open, 5);
    }

    private static void constructor() {
        due.in("constructor");
        int is = FaceRounds.class.getModifiers();
        due.of("public final class", Modifier.isPublic(is) && Modifier.isFinal(is) ? 1 : 0, 1);
        Constructor<?>[] all = FaceRounds.class.getDeclaredConstructors();
        due.of("constructors", all.length, 1);
        due.of("its parameters", all[0].getParameterCount(), 0);
        due.of("it is public", Modifier.isPublic(all[0].getModifiers()) ? 1 : 0, 1);
    }

    private static String told(Method method) {
        StringBuilder told = new StringBuilder(method.getReturnType().getName());
        told.append(' ').append(method.getName()).append('(');
        for (int i = 0; i < method.getParameterCount(); i++) {
            told.append(i == 0 ? "" : ", ").append(method.getParameterTypes()[i].getName());
        }
        return told.append(')').toString();
    }

    private static void methods() {
        due.in("methods");
        Set<String> wanted = new TreeSet<>(Set.of(METHODS));
        Set<String> names = new TreeSet<>();
        for (String method : METHODS) {
            names.add(method.substring(4, method.indexOf('(')));
        }
        for (Method method : FaceRounds.class.getDeclaredMethods()) {
            if (Modifier.isPrivate(method.getModifiers())) {
                due.of("private method with a public name, " + told(method), names.contains(method.getName()) ? 1 : 0, 0);
            } else {
                boolean plain = Modifier.isPublic(method.getModifiers()) && !Modifier.isStatic(method.getModifiers());
                due.of(told(method), plain && wanted.remove(told(method)) ? 1 : 0, 1);
            }
        }
        due.of("methods that are missing: " + wanted, wanted.size(), 0);
    }

    private static void classesInside() {
        due.in("classes inside");
        for (Class<?> inside : FaceRounds.class.getDeclaredClasses()) {
            int is = inside.getModifiers();
            boolean fits = Modifier.isStatic(is) && !Modifier.isPublic(is) && !Modifier.isProtected(is);
            due.of(inside.getName(), fits ? 1 : 0, 1);
        }
    }
}

import java.lang.reflect.Constructor;
import java.lang.reflect.Field;
import java.lang.reflect.Method;
import java.lang.reflect.Modifier;
import java.util.Set;
import java.util.TreeSet;

/** The class shows the document's face and nothing else (LANGUAGE.md, rules 1, 5 and 11). */
final class FaceTest {
    private static final Checks CHECKS = new Checks();
    private static final String[] METHODS = {
        "int draw(long,long)", "int node(int,int,int,long)", "int role(int,int)", "int begin()", "int run(int)",
        "int boxes()", "int kind(int)", "long side(int,int,int) throws ArrayIndexOutOfBoundsException",
        "long weight(int,int)", "long enclosed(int,int,int)", "long value(int,long,long,long)",
        "int within(int,int,long,long,long)", "int where(long,long,long)", "long mass(int,int)", "long odds(int)",
        "int share(int) throws ArithmeticException", "int count(int)", "int clear()"};
    private static final Set<String> CONSTANTS = Set.of("UNKNOWN", "OUTSIDE", "STATE", "FULL", "NONE");

    public static void main(String[] args) {
        Class<?> face = BoxIntegrals.class;
        CHECKS.due("public and final", face.getModifiers(), Modifier.PUBLIC | Modifier.FINAL);
        constructors(face);
        Set<String> publicNames = methods(face);
        constants(face);
        fieldsOf(face);
        Class<?>[] inside = face.getDeclaredClasses();
        CHECKS.holds("at most twelve classes", inside.length + 1 <= 12);
        for (Class<?> one : inside) {
            int how = one.getModifiers();
            CHECKS.holds(one + " is static", Modifier.isStatic(how));
            CHECKS.holds(one + " is hidden", !Modifier.isPublic(how) && !Modifier.isProtected(how));
            for (Method method : one.getDeclaredMethods()) {
                CHECKS.holds(method + " has a name of its own", !publicNames.contains(method.getName()));
                CHECKS.holds(method + " takes at most seven", method.getParameterCount() <= 7);
            }
            fieldsOf(one);
        }
        CHECKS.end("FaceTest");
    }

    private static void constructors(Class<?> face) {
        Constructor<?>[] all = face.getDeclaredConstructors();
        CHECKS.due("one constructor", all.length, 1);
        CHECKS.holds("public, of nothing", Modifier.isPublic(all[0].getModifiers()) && all[0].getParameterCount() == 0);
    }

    private static String told(Method method) {
        StringBuilder text = new StringBuilder();
        text.append(method.getReturnType().getSimpleName()).append(' ').append(method.getName()).append('(');
        String between = "";
        for (Class<?> type : method.getParameterTypes()) {
            text.append(between).append(type.getSimpleName());
            between = ",";
        }
        text.append(')');
        for (Class<?> type : method.getExceptionTypes()) {
            text.append(" throws ").append(type.getSimpleName());
        }
        return text.toString();
    }

    private static Set<String> methods(Class<?> face) {
        Set<String> want = new TreeSet<>(java.util.List.of(METHODS));
        Set<String> got = new TreeSet<>();
        Set<String> names = new TreeSet<>();
        for (Method method : face.getDeclaredMethods()) {
            if (!Modifier.isPrivate(method.getModifiers())) {
                got.add(told(method));
                names.add(method.getName());
                CHECKS.due("only public: " + method, method.getModifiers(), Modifier.PUBLIC);
            }
        }
        for (Method method : face.getDeclaredMethods()) {
            if (Modifier.isPrivate(method.getModifiers())) {
                CHECKS.holds(method + " has a name of its own", !names.contains(method.getName()));
            }
        }
        CHECKS.holds("the methods are " + got, got.equals(want));
        return names;
    }

    private static void constants(Class<?> face) {
        int shown = 0;
        for (Field field : face.getDeclaredFields()) {
            if (!Modifier.isPrivate(field.getModifiers())) {
                shown++;
                CHECKS.holds(field + " is of the document", CONSTANTS.contains(field.getName()));
                CHECKS.due("how " + field, field.getModifiers(), Modifier.PUBLIC | Modifier.STATIC | Modifier.FINAL);
            }
        }
        CHECKS.due("constants", shown, CONSTANTS.size());
        CHECKS.due("UNKNOWN", BoxIntegrals.UNKNOWN, -1);
        CHECKS.due("OUTSIDE", BoxIntegrals.OUTSIDE, -2);
        CHECKS.due("STATE", BoxIntegrals.STATE, -3);
        CHECKS.due("FULL", BoxIntegrals.FULL, -4);
        CHECKS.due("NONE", BoxIntegrals.NONE, -5);
    }

    private static void fieldsOf(Class<?> one) {
        int fields = 0;
        for (Field field : one.getDeclaredFields()) {
            if (Modifier.isStatic(field.getModifiers())) {
                Class<?> type = field.getType();
                CHECKS.holds(field + " is final", Modifier.isFinal(field.getModifiers()));
                CHECKS.holds(field + " is int or long", type == int.class || type == long.class);
            } else {
                fields++;
            }
        }
        CHECKS.holds(one + " has at most twenty fields", fields <= 20);
    }
}

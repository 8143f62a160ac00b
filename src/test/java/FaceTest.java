import java.lang.reflect.Constructor;
import java.lang.reflect.Field;
import java.lang.reflect.Method;
import java.lang.reflect.Modifier;
import java.util.Set;
import java.util.TreeSet;

/** The members that can be seen from outside are those of the document and no others. */
public final class FaceTest {
    private static final Checks checks = new Checks();

    public static void main(String[] args) {
        checks.topic("public face");
        int flags = PatternTables.class.getModifiers();
        checks.due("public", true, Modifier.isPublic(flags));
        checks.due("final", true, Modifier.isFinal(flags));
        checks.due("nested classes", 0, PatternTables.class.getDeclaredClasses().length);
        methods();
        constructors();
        fields();
        checks.end();
    }

    private static void methods() {
        Set<String> want = Set.of(
            "int extend(int, int)", "int shorten(int)", "int grow(int)", "int prune()",
            "boolean complete(int)", "boolean whole()", "int fitsAt(int)", "int count(int)",
            "int next(int, int)", "int gapAt(int, int, int)", "int size(int)",
            "boolean equal(int, int)", "int kinds()", "boolean covers(int, int)", "int bare()");
        Set<String> got = new TreeSet<>();
        for (Method method : PatternTables.class.getDeclaredMethods()) {
            int flags = method.getModifiers();
            if (Modifier.isPrivate(flags)) {
                continue;
            }
            checks.due(method + " is public and of the object", true,
                Modifier.isPublic(flags) && !Modifier.isStatic(flags));
            got.add(text(method));
        }
        checks.due("methods " + got, true, got.equals(want));
    }

    private static String text(Method method) {
        StringBuilder text = new StringBuilder();
        text.append(method.getReturnType()).append(' ').append(method.getName()).append('(');
        String between = "";
        for (Class<?> type : method.getParameterTypes()) {
            text.append(between).append(type);
            between = ", ";
        }
        return text.append(')').toString();
    }

    private static void constructors() {
        Constructor<?>[] all = PatternTables.class.getDeclaredConstructors();
        checks.due("constructors", 1, all.length);
        checks.due("public constructor", true, Modifier.isPublic(all[0].getModifiers()));
        checks.due("its parameters", 0, all[0].getParameterCount());
    }

    private static void fields() {
        Set<String> got = new TreeSet<>();
        for (Field field : PatternTables.class.getDeclaredFields()) {
            int flags = field.getModifiers();
            if (Modifier.isPrivate(flags)) {
                continue;
            }
            checks.due(field + " is a public constant", true,
                Modifier.isPublic(flags) && Modifier.isStatic(flags) && Modifier.isFinal(flags));
            got.add(field.getType() + " " + field.getName());
        }
        checks.due("fields " + got, true, got.equals(Set.of("int NONE", "int FULL")));
    }
}

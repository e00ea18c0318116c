import java.lang.reflect.Constructor;
import java.lang.reflect.Field;
import java.lang.reflect.Method;
import java.lang.reflect.Modifier;
import java.util.Arrays;
import java.util.TreeSet;

/** The face: the constants, the constructor, the methods of the document and nothing else that is open. */
public final class FaceTest {
    private static final String[] METHODS = {
        "int about(int)", "int again(int)", "int answer(int, boolean)", "int believed(int, int, int, boolean)",
        "int chance(int, boolean)", "int chosen(int)", "int chosenWorth(int)", "int court()", "int differs(int)",
        "int fault()", "int hear(int, boolean)", "int hunt(int, boolean)", "int hunted(int)", "int judged(int, int)",
        "int keep(int)", "int measures(int)", "int morning()", "int nearest(int)", "int person(int, int)",
        "int plain(int, int)", "int rate(int, int, boolean)", "int reign(boolean)", "int saying(int, int, boolean)",
        "int toAsk()", "int undo()", "int unhear()", "int wipe()", "int worlds(int)", "int write(int)", "int year()",
        "long seed(long)"};

    public static void main(String[] args) {
        constants();
        methods();
        constructors();
        Due.due("public and final", WallMirror.class.getModifiers(), Modifier.PUBLIC | Modifier.FINAL);
        Due.end();
    }

    private static void constants() {
        Due.due("UNKNOWN", WallMirror.UNKNOWN, -1);
        Due.due("BAD", WallMirror.BAD, -2);
        Due.due("LATE", WallMirror.LATE, -3);
        Due.due("FULL", WallMirror.FULL, -4);
        Due.due("NONE", WallMirror.NONE, -9);
        TreeSet<String> open = new TreeSet<>();
        for (Field field : WallMirror.class.getDeclaredFields()) {
            if (!Modifier.isPrivate(field.getModifiers())) {
                open.add(field.getName());
            }
        }
        Due.due("open fields", open.toString(), "[BAD, FULL, LATE, NONE, UNKNOWN]");
    }

    private static void methods() {
        TreeSet<String> open = new TreeSet<>();
        TreeSet<String> names = new TreeSet<>();
        for (Method method : WallMirror.class.getDeclaredMethods()) {
            if (!Modifier.isPrivate(method.getModifiers())) {
                open.add(told(method));
                names.add(method.getName());
            }
        }
        Due.due("open methods", open.toString(), new TreeSet<>(Arrays.asList(METHODS)).toString());
        for (Method method : WallMirror.class.getDeclaredMethods()) {
            boolean shadows = Modifier.isPrivate(method.getModifiers()) && names.contains(method.getName());
            Due.due("private and of a public name: " + method.getName(), shadows ? 1 : 0, 0);
        }
    }

    private static String told(Method method) {
        StringBuilder told = new StringBuilder(method.getReturnType().getName());
        told.append(' ').append(method.getName()).append('(');
        for (Class<?> type : method.getParameterTypes()) {
            told.append(told.charAt(told.length() - 1) == '(' ? "" : ", ").append(type.getName());
        }
        return told.append(')').toString();
    }

    private static void constructors() {
        Constructor<?>[] all = WallMirror.class.getDeclaredConstructors();
        Due.due("constructors", all.length, 1);
        Due.due("of no parameters", all[0].getParameterCount(), 0);
        Due.due("public", all[0].getModifiers(), Modifier.PUBLIC);
    }
}

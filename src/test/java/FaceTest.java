import java.lang.reflect.Constructor;
import java.lang.reflect.Field;
import java.lang.reflect.Method;
import java.lang.reflect.Modifier;
import java.util.Arrays;
import java.util.TreeSet;

/** The class shows the document's face and nothing else, and its constants are the document's. */
public final class FaceTest {
    private static final String[] METHODS = {
        "int things(int)", "int lay(int, int)", "int below(int, int)", "int weight(int, int)", "int say(int)",
        "int hush()", "int heap(int)", "int many()", "int flip(int, int)", "int turn(int, int, int)",
        "int orbit(int, int)", "int orbits(int, int)", "int measure(int, int)", "int mean(int, int, int, int)",
        "int even(int, int)", "int fillings(int)", "int bend(int, int, int)", "int round(int, int, int)",
        "int period(int, int, int)", "int counts(int)", "int at(int)", "int stays(int, int)", "int count(int)",
        "long trace()"
    };
    private static final String[] CONSTANTS = {"BAD = -1", "STATE = -2", "FULL = -3", "NONE = -9", "NO = -1000000"};
    private static int wrong = 0;

    public static void main(String[] args) throws Exception {
        int modifiers = FlipHeaps.class.getModifiers();
        same("the class is public and final", "true", "" + (Modifier.isPublic(modifiers) && Modifier.isFinal(modifiers)));
        same("constructors", "[public FlipHeaps()]", constructors());
        same("methods", new TreeSet<>(Arrays.asList(METHODS)).toString(), methods());
        same("constants", new TreeSet<>(Arrays.asList(CONSTANTS)).toString(), constants());
        same("private methods with a public name", "[]", clashes());
        System.out.println(wrong == 0 ? "FaceTest: the face is the document's" : "FaceTest: " + wrong + " parts are not as due");
        if (wrong != 0) {
            System.exit(1);
        }
    }

    private static void same(String what, String want, String got) {
        if (!want.equals(got)) {
            wrong++;
            System.out.println(what + ": found " + got + ", due is " + want);
        }
    }

    private static String constructors() {
        TreeSet<String> found = new TreeSet<>();
        for (Constructor<?> one : FlipHeaps.class.getDeclaredConstructors()) {
            found.add(one.toString());
        }
        return found.toString();
    }

    private static String methods() {
        TreeSet<String> found = new TreeSet<>();
        for (Method one : FlipHeaps.class.getDeclaredMethods()) {
            if (!Modifier.isPrivate(one.getModifiers())) {
                StringBuilder text = new StringBuilder();
                for (Class<?> type : one.getParameterTypes()) {
                    text.append(text.length() == 0 ? "" : ", ").append(type.getName());
                }
                String kind = one.getModifiers() == Modifier.PUBLIC ? "" : Modifier.toString(one.getModifiers()) + " ";
                found.add(kind + one.getReturnType().getName() + " " + one.getName() + "(" + text + ")");
            }
        }
        return found.toString();
    }

    private static String constants() throws Exception {
        TreeSet<String> found = new TreeSet<>();
        for (Field one : FlipHeaps.class.getDeclaredFields()) {
            if (!Modifier.isPrivate(one.getModifiers())) {
                int due = Modifier.PUBLIC | Modifier.STATIC | Modifier.FINAL;
                boolean plain = one.getModifiers() == due && one.getType() == int.class;
                found.add(plain ? one.getName() + " = " + one.getInt(null) : one.toString());
            }
        }
        return found.toString();
    }

    private static String clashes() {
        TreeSet<String> shown = new TreeSet<>();
        TreeSet<String> hidden = new TreeSet<>();
        for (Method one : FlipHeaps.class.getDeclaredMethods()) {
            (Modifier.isPrivate(one.getModifiers()) ? hidden : shown).add(one.getName());
        }
        hidden.retainAll(shown);
        return hidden.toString();
    }
}

import java.lang.reflect.Constructor;
import java.lang.reflect.Field;
import java.lang.reflect.Method;
import java.lang.reflect.Modifier;
import java.util.Arrays;
import java.util.TreeSet;

/** The face of the class: what DOC.md lists under "The public face", and nothing else that can be seen. */
public final class FaceTest {

    private static final String[] METHODS = {
        "int join(int, int, int)", "int leave(int)", "int fail(int)", "int setBound(int, int)",
        "int setSource(int)", "int setDelay(int)", "int repair()", "int rejoin(int, int)", "int tick(int)",
        "int time()", "int member(int, int)", "int parent(int, int)", "int depth(int, int)",
        "int child(int, int, int)", "int subtree(int, int)", "boolean hasRoom(int, int)",
        "boolean ranksBefore(int, int, int)", "int harm(int)", "int pieces(int)", "int stripe(int, int)",
        "int count(int)", "int undo()", "long digest()"
    };

    public static void main(String[] args) {
        methods();
        constantsAndConstructor();
        Check.end();
    }

    private static void methods() {
        TreeSet<String> seen = new TreeSet<>();
        for (Method method : StripeTrees.class.getDeclaredMethods()) {
            if (Modifier.isPrivate(method.getModifiers()) || method.isSynthetic()) {
                continue;
            }
            Check.due(method + " is public", Modifier.isPublic(method.getModifiers()), true);
            String types = Arrays.toString(method.getParameterTypes());
            seen.add(method.getReturnType() + " " + method.getName() + "("
                    + types.substring(1, types.length() - 1) + ")");
        }
        TreeSet<String> want = new TreeSet<>(Arrays.asList(METHODS));
        Check.due("the methods " + seen + " are those of the face", seen.equals(want), true);
    }

    private static void constantsAndConstructor() {
        Check.due("NONE", StripeTrees.NONE, -1);
        Check.due("SOURCE", StripeTrees.SOURCE, 100);
        TreeSet<String> seen = new TreeSet<>();
        for (Field field : StripeTrees.class.getDeclaredFields()) {
            if (!Modifier.isPrivate(field.getModifiers())) {
                seen.add(Modifier.toString(field.getModifiers()) + " " + field.getType() + " " + field.getName());
            }
        }
        TreeSet<String> want = new TreeSet<>(Arrays.asList(
                "public static final int NONE", "public static final int SOURCE"));
        Check.due("the fields " + seen + " are the constants", seen.equals(want), true);
        Constructor<?>[] made = StripeTrees.class.getDeclaredConstructors();
        Check.due("constructors", made.length, 1);
        Check.due("parameters of the constructor", made[0].getParameterCount(), 0);
        Check.due("the class is final", Modifier.isFinal(StripeTrees.class.getModifiers()), true);
    }
}

import java.lang.reflect.Constructor;
import java.lang.reflect.Field;
import java.lang.reflect.Method;
import java.lang.reflect.Modifier;
import java.util.Arrays;
import java.util.TreeSet;

/** The face of the class: what DOC.md lists under "The public face", and nothing else that can be seen. */
public final class FaceTest {

    // O: IndexOutOfBoundsException, A: IllegalArgumentException, S: IllegalStateException, as declared.
    private static final String[] METHODS = {
        "int join(int, int, int) OAS", "int leave(int) OS", "int fail(int) OS", "int setBound(int, int) OAS",
        "int setSource(int) A", "int setDelay(int) A", "int repair() ", "int rejoin(int, int) OS",
        "int tick(int) A", "int time() ", "int member(int, int) OA", "int parent(int, int) OS",
        "int depth(int, int) OS", "int child(int, int, int) OAS", "int subtree(int, int) OS",
        "boolean hasRoom(int, int) OS", "boolean ranksBefore(int, int, int) OAS", "int harm(int) OS",
        "int pieces(int) OS", "int stripe(int, int) OA", "int count(int) A", "int undo() S", "long digest() "
    };

    public static void main(String[] args) {
        methods();
        constantsAndConstructor();
        Check.end();
    }

    private static void methods() {
        TreeSet<String> seen = new TreeSet<>();
        for (Method method : StripeTrees.class.getDeclaredMethods()) {
            if (Modifier.isPrivate(method.getModifiers()) || method.isSynthetic()) {
                continue;
            }
            Check.due(method + " is public", Modifier.isPublic(method.getModifiers()), true);
            String types = Arrays.toString(method.getParameterTypes());
            seen.add(method.getReturnType() + " " + method.getName() + "("
                    + types.substring(1, types.length() - 1) + ") " + declared(method));
        }
        TreeSet<String> want = new TreeSet<>(Arrays.asList(METHODS));
        Check.due("the methods " + seen + " are those of the face", seen.equals(want), true);
    }

    private static String declared(Method method) {
        StringBuilder letters = new StringBuilder();
        for (Class<?> kind : method.getExceptionTypes()) {
            letters.append(kind == IndexOutOfBoundsException.class ? 'O'
                    : kind == IllegalArgumentException.class ? 'A'
                    : kind == IllegalStateException.class ? 'S' : '?');
        }
        return letters.toString();
    }

    private static void constantsAndConstructor() {
        Check.due("NONE", StripeTrees.NONE, -1);
        Check.due("SOURCE", StripeTrees.SOURCE, 100);
        TreeSet<String> seen = new TreeSet<>();
        for (Field field : StripeTrees.class.getDeclaredFields()) {
            if (!Modifier.isPrivate(field.getModifiers())) {
                seen.add(Modifier.toString(field.getModifiers()) + " " + field.getType() + " " + field.getName());
            }
        }
        TreeSet<String> want = new TreeSet<>(Arrays.asList(
                "public static final int NONE", "public static final int SOURCE"));
        Check.due("the fields " + seen + " are the constants", seen.equals(want), true);
        Constructor<?>[] made = StripeTrees.class.getDeclaredConstructors();
        Check.due("constructors", made.length, 1);
        Check.due("parameters of the constructor", made[0].getParameterCount(), 0);
        Check.due("the constructor is public", Modifier.isPublic(made[0].getModifiers()), true);
        Check.due("exceptions of the constructor", made[0].getExceptionTypes().length, 0);
        Check.due("the class is public", Modifier.isPublic(StripeTrees.class.getModifiers()), true);
        Check.due("the class is final", Modifier.isFinal(StripeTrees.class.getModifiers()), true);
    }
}

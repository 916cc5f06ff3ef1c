import java.lang.reflect.Field;
import java.lang.reflect.Method;
import java.lang.reflect.Modifier;
import java.util.Set;
import java.util.TreeSet;

/** The public face: the constants, the constructor and the methods of the document, and no others. */
public final class FaceTest {
    private static final Due due = new Due();
    private static final String[] METHODS = {
        "set(int,int)", "loop(int,int,int,int,int)", "bounds(int,int,int)", "come(int,int,int,int)", "want(int)",
        "speed(int,int)", "ticks(int)", "ofCar(int,int)", "ofLoop(int,int)", "error(int)", "carAt(int,int)", "count(int)",
        "inside(int,int)", "countsIn(int,int)", "countsAlone(int,int)", "bestUpper(int,int)", "bestTurn(int)", "goneIn(int)",
        "put(long)", "wipe()", "fault()", "carryOut()", "undo()", "save(int)", "restore(int)",
    };
    private static final String[] CONSTANTS = {
        "NO_SUCH=-1", "BAD_VALUE=-2", "BAD_TEXT=-3", "TOO_MANY=-4", "NOT_POSSIBLE=-5", "NONE=-6", "ACROSS=0", "TURN=1",
    };

    public static void main(String[] args) throws IllegalAccessException {
        Class<?> face = LoopListeners.class;
        is("the class is public and final", Modifier.isPublic(face.getModifiers()) && Modifier.isFinal(face.getModifiers()));
        is("one constructor", face.getDeclaredConstructors().length == 1 && face.getConstructors().length == 1);
        is("without arguments", face.getConstructors()[0].getParameterCount() == 0);
        methods(face);
        constants(face);
        for (Class<?> inner : face.getDeclaredClasses()) {
            is(inner + " is static, and private", Modifier.isStatic(inner.getModifiers()) && Modifier.isPrivate(inner.getModifiers()));
            for (Method method : inner.getDeclaredMethods()) {
                is(method + " has no name of the face", !names().contains(method.getName()));
            }
        }
        due.end();
    }

    private static void is(String what, boolean so) {
        due.is(what, so ? 1 : 0, 1);
    }

    private static Set<String> names() {
        Set<String> names = new TreeSet<>();
        for (String method : METHODS) {
            names.add(method.substring(0, method.indexOf('(')));
        }
        return names;
    }

    private static void methods(Class<?> face) {
        Set<String> found = new TreeSet<>();
        for (Method method : face.getDeclaredMethods()) {
            if (Modifier.isPrivate(method.getModifiers())) {
                is(method + " has no name of the face", !names().contains(method.getName()));
                continue;
            }
            is(method + " is public", Modifier.isPublic(method.getModifiers()) && !Modifier.isStatic(method.getModifiers()));
            is(method + " answers an int", method.getReturnType() == int.class);
            StringBuilder text = new StringBuilder(method.getName()).append('(');
            for (Class<?> type : method.getParameterTypes()) {
                text.append(text.charAt(text.length() - 1) == '(' ? "" : ",").append(type.getName());
            }
            found.add(text.append(')').toString());
        }
        is("the methods " + found, found.equals(new TreeSet<>(Set.of(METHODS))));
    }

    private static void constants(Class<?> face) throws IllegalAccessException {
        Set<String> found = new TreeSet<>();
        for (Field field : face.getDeclaredFields()) {
            if (Modifier.isPrivate(field.getModifiers())) {
                continue;
            }
            int wanted = Modifier.PUBLIC | Modifier.STATIC | Modifier.FINAL;
            is(field + " is a public constant", field.getModifiers() == wanted && field.getType() == int.class);
            found.add(field.getName() + "=" + field.getInt(null));
        }
        is("the constants " + found, found.equals(new TreeSet<>(Set.of(CONSTANTS))));
    }
}

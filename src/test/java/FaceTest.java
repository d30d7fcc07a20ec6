import java.lang.reflect.Field;
import java.lang.reflect.Method;
import java.lang.reflect.Modifier;
import java.util.Arrays;
import java.util.Set;
import java.util.TreeSet;

/** The public face: the class has the document's members, and no other that is not private. */
public final class FaceTest {
    private static final Set<String> FACE = new TreeSet<>(Arrays.asList(
        "public int start(int, boolean)", "public int step(int, boolean)", "public int send(int, boolean)",
        "public int receive(int, int, boolean)", "public int knows(int, int, int)", "public int possibly(int)",
        "public int least(int, int)", "public int definitely(int)", "public int cuts()", "public int events(int)"));

    public static void main(String[] args) {
        Due due = new Due();
        Class<?> face = CutWatch.class;
        due.is("modifiers", face.getModifiers(), Modifier.PUBLIC | Modifier.FINAL);
        due.is("constructors", face.getDeclaredConstructors().length, 1);
        due.is("public constructors", face.getConstructors().length, 1);
        due.is("its parameters", face.getDeclaredConstructors()[0].getParameterCount(), 0);
        due.is("nested classes", face.getDeclaredClasses().length, 0);
        for (Field field : face.getDeclaredFields()) {
            due.is("private: " + field, field.getModifiers() & Modifier.PRIVATE, Modifier.PRIVATE);
        }
        Set<String> found = new TreeSet<>();
        for (Method method : face.getDeclaredMethods()) {
            if (!Modifier.isPrivate(method.getModifiers())) {
                found.add(told(method));
            }
        }
        due.is("the document's methods in " + found, found.equals(FACE) ? 1 : 0, 1);
        due.end();
    }

    private static String told(Method method) {
        StringBuilder parameters = new StringBuilder();
        for (Class<?> type : method.getParameterTypes()) {
            parameters.append(parameters.length() == 0 ? "" : ", ").append(type.getName());
        }
        return Modifier.toString(method.getModifiers()) + " " + method.getReturnType().getName()
            + " " + method.getName() + "(" + parameters + ")";
    }
}

import java.lang.reflect.Constructor;
import java.lang.reflect.Field;
import java.lang.reflect.Method;
import java.lang.reflect.Modifier;
import java.util.Arrays;
import java.util.Set;
import java.util.TreeSet;

/** The class has the document's face, and nothing else that another class can reach. */
public final class FaceTest {
    private static final String[] FACE = {
        "int symbol(int, boolean)",
        "int put(int)",
        "int keep(int)",
        "int order(int, int)",
        "int unify(int, int, int, boolean)",
        "boolean match(int, int)",
        "int bound(int, int)",
        "int replace(int, int, int, int)",
        "int rewrite(int, int, int, int)",
        "int code(int, int)",
        "int told(int, int)",
        "int count(int)",
    };

    public static void main(String[] args) {
        Check.due("public and final", TermBench.class.getModifiers(), Modifier.PUBLIC | Modifier.FINAL);
        constructors();
        methods();
        for (Field field : TermBench.class.getDeclaredFields()) {
            Check.due("private: " + field, Modifier.isPrivate(field.getModifiers()), true);
            boolean fixed = !Modifier.isStatic(field.getModifiers()) || Modifier.isFinal(field.getModifiers());
            Check.due("not a static that changes: " + field, fixed, true);
        }
        Check.end();
    }

    private static void constructors() {
        Constructor<?>[] all = TermBench.class.getDeclaredConstructors();
        Check.due("constructors", all.length, 1);
        Check.due("public", Modifier.isPublic(all[0].getModifiers()), true);
        Check.due("its parameters", all[0].getParameterCount(), 0);
    }

    private static void methods() {
        Set<String> due = new TreeSet<>(Arrays.asList(FACE));
        Set<String> names = new TreeSet<>();
        for (Method method : TermBench.class.getDeclaredMethods()) {
            if (!Modifier.isPrivate(method.getModifiers())) {
                Check.due("of the face: " + method, due.remove(signature(method)), true);
                names.add(method.getName());
            }
        }
        Check.due("all of the face but " + due, due.size(), 0);
        for (Class<?> inside : TermBench.class.getDeclaredClasses()) {
            boolean hidden = (inside.getModifiers() & (Modifier.PUBLIC | Modifier.PROTECTED)) == 0;
            Check.due("private or package-visible: " + inside, hidden, true);
            noPrivateNameOfTheFace(inside, names);
        }
        noPrivateNameOfTheFace(TermBench.class, names);
    }

    private static void noPrivateNameOfTheFace(Class<?> all, Set<String> names) {
        for (Method method : all.getDeclaredMethods()) {
            boolean borne = Modifier.isPrivate(method.getModifiers()) && names.contains(method.getName());
            Check.due("a private method with a name of the face: " + method, borne, false);
        }
    }

    private static String signature(Method method) {
        StringBuilder text = new StringBuilder(method.getReturnType() + " " + method.getName() + "(");
        for (int i = 0; i < method.getParameterCount(); i++) {
            text.append(i == 0 ? "" : ", ").append(method.getParameterTypes()[i]);
        }
        return text.append(")").toString();
    }
}

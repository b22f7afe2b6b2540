import java.lang.reflect.Constructor;
import java.lang.reflect.Field;
import java.lang.reflect.Method;
import java.lang.reflect.Modifier;
import java.util.Arrays;
import java.util.Set;
import java.util.TreeSet;

/** The class has the document's face, and nothing else that another class can reach. */
public final class FaceTest {
    private static final String[] FACE = {
        "int symbol(int, boolean) throws IllegalArgumentException, IllegalStateException",
        "int put(int) throws NoSuchElementException, IllegalStateException",
        "int keep(int) throws NoSuchElementException, IllegalStateException",
        "int order(int, int) throws NoSuchElementException",
        "int unify(int, int, int, boolean) throws NoSuchElementException",
        "boolean match(int, int) throws NoSuchElementException",
        "int bound(int, int) throws NoSuchElementException",
        "int replace(int, int, int, int) throws NoSuchElementException, IllegalStateException",
        "int rewrite(int, int, int, int) throws NoSuchElementException",
        "int code(int, int) throws NoSuchElementException",
        "int told(int, int) throws NoSuchElementException, IllegalArgumentException",
        "int count(int)",
    };

    public static void main(String[] args) {
        Check.due("public and final", TermBench.class.getModifiers(), Modifier.PUBLIC | Modifier.FINAL);
        constructors();
        methods();
        for (Field field : TermBench.class.getDeclaredFields()) {
            Check.due("private: " + field, Modifier.isPrivate(field.getModifiers()), true);
            boolean fixed = !Modifier.isStatic(field.getModifiers()) || Modifier.isFinal(field.getModifiers());
            Check.due("not a static that changes: " + field, fixed, true);
        }
        Check.end();
    }

    private static void constructors() {
        Constructor<?>[] all = TermBench.class.getDeclaredConstructors();
        Check.due("constructors", all.length, 1);
        Check.due("public", Modifier.isPublic(all[0].getModifiers()), true);
        Check.due("its parameters", all[0].getParameterCount(), 0);
    }

    private static void methods() {
        Set<String> due = new TreeSet<>(Arrays.asList(FACE));
        Set<String> names = new TreeSet<>();
        for (Method method : TermBench.class.getDeclaredMethods()) {
            if (!Modifier.isPrivate(method.getModifiers())) {
                Check.due("of the face: " + method, due.remove(signature(method)), true);
                names.add(method.getName());
            }
        }
        Check.due("all of the face but " + due, due.size(), 0);
        for (Class<?> inside : TermBench.class.getDeclaredClasses()) {
            boolean hidden = (inside.getModifiers() & (Modifier.PUBLIC | Modifier.PROTECTED)) == 0;
            Check.due("private or package-visible: " + inside, hidden, true);
            noPrivateNameOfTheFace(inside, names);
        }
        noPrivateNameOfTheFace(TermBench.class, names);
    }

    private static void noPrivateNameOfTheFace(Class<?> all, Set<String> names) {
        for (Method method : all.getDeclaredMethods()) {
            boolean borne = Modifier.isPrivate(method.getModifiers()) && names.contains(method.getName());
            Check.due("a private method with a name of the face: " + method, borne, false);
        }
    }

    private static String signature(Method method) {
        StringBuilder text = new StringBuilder(method.getReturnType() + " " + method.getName() + "(");
        for (int i = 0; i < method.getParameterCount(); i++) {
            text.append(i == 0 ? "" : ", ").append(method.getParameterTypes()[i]);
        }
        text.append(")");
        for (int i = 0; i < method.getExceptionTypes().length; i++) {
            text.append(i == 0 ? " throws " : ", ").append(method.getExceptionTypes()[i].getSimpleName());
        }
        return text.toString();
    }
}

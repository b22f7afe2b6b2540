import java.lang.reflect.Array;
import java.lang.reflect.Field;
import java.lang.reflect.Modifier;
import java.util.ArrayDeque;
import java.util.Collections;
import java.util.Deque;
import java.util.IdentityHashMap;
import java.util.Set;

/** What a bench is made of is little, is all made with it, and stays the same under its calls. */
public final class RoomTest {
    private static final int MOST_OBJECTS = 100;
    private static final int MOST_ELEMENTS = 6000;

    public static void main(String[] args) throws IllegalAccessException {
        TermBench bench = new TermBench();
        Set<Object> before = partsOf(bench);
        Check.due("at most " + MOST_OBJECTS + " objects: " + before.size(), before.size() <= MOST_OBJECTS, true);
        int elements = elementsOf(before);
        Check.due("at most " + MOST_ELEMENTS + " elements: " + elements, elements <= MOST_ELEMENTS, true);
        everyCall(bench);
        Set<Object> after = partsOf(bench);
        Check.due("the parts are those that they were", after.equals(before), true);
        Check.end();
    }

    private static void everyCall(TermBench bench) {
        int a = bench.symbol(0, false);
        int f = bench.symbol(1, false);
        Check.keep(bench, 0, Check.chain(99, f, a));
        Check.keep(bench, 1, f, -1);
        Check.due("order", bench.order(0, 1), 0);
        Check.due("unify", bench.unify(3, 0, 1, true), 1);
        Check.due("match", bench.match(1, 0), true);
        Check.due("bound", bench.bound(4, 0), 99);
        Check.due("replace", bench.replace(5, 1, 1, 4), 100);
        Check.due("rewrite", bench.rewrite(6, 0, 1, 2), 60);
        Check.due("code", bench.code(6, 39), a);
        Check.due("told", bench.told(6, 2), 40);
        Check.due("count", bench.count(3), 60);
        Check.dueThrow("put", Check.NO_SUCH, () -> bench.put(2));
        Check.dueThrow("keep", Check.STATE, () -> bench.keep(0));
    }

    private static Set<Object> partsOf(TermBench bench) throws IllegalAccessException {
        Set<Object> parts = Collections.newSetFromMap(new IdentityHashMap<>());
        Deque<Object> open = new ArrayDeque<>();
        open.add(bench);
        while (!open.isEmpty()) {
            Object part = open.remove();
            if (parts.add(part)) {
                addHeld(part, open);
            }
        }
        return parts;
    }

    private static void addHeld(Object part, Deque<Object> open) throws IllegalAccessException {
        if (part instanceof Object[] row) {
            for (Object each : row) {
                if (each != null) {
                    open.add(each);
                }
            }
        } else if (!part.getClass().isArray()) {
            for (Field field : part.getClass().getDeclaredFields()) {
                if (!Modifier.isStatic(field.getModifiers()) && !field.getType().isPrimitive()) {
                    field.setAccessible(true);
                    if (field.get(part) != null) {
                        open.add(field.get(part));
                    }
                }
            }
        }
    }

    private static int elementsOf(Set<Object> parts) {
        int elements = 0;
        for (Object part : parts) {
            if (part.getClass().isArray()) {
                elements += Array.getLength(part);
            } else {
                for (Field field : part.getClass().getDeclaredFields()) {
                    elements += Modifier.isStatic(field.getModifiers()) ? 0 : 1;
                }
            }
        }
        return elements;
    }
}

import java.lang.reflect.Array;
import java.lang.reflect.Field;
import java.lang.reflect.Modifier;
import java.util.ArrayDeque;
import java.util.Collections;
import java.util.Deque;
import java.util.IdentityHashMap;
import java.util.Set;

/** All calls live in one room: rows are made with the object and used again. */
final class RoomTest {
    private static final long ROOM = 200000;
    private static final int CALLS = 512;
    private static final int CALLS_A_TURN = 7;
    private static final String TEXT = "iter (n : long) (f : 'a -> 'a) (x : 'a) : 'a = "
            + "if n < 1 then x else iter (n - 1) f (f x); "
            + "m (n : long) : long * double = iter n (fn (p : long * double) -> "
            + "(fst p + 1, snd p)) (0, #1); loop : long = loop; "
            + "id (x : 'a) : 'a = x; many (n : long) : long = "
            + "if n < 1 then fst (id (n, n)) else many (n - 1) + many (n - 1);";

    private final Check check = new Check();
    private long elements;

    public static void main(String[] args) throws IllegalAccessException {
        RoomTest test = new RoomTest();
        BoxedCore core = Check.fed(TEXT);
        test.check.same("compile", 5, core.compile());
        Set<Object> before = test.objectsOf(core);
        long elements = test.elements;
        test.check.same("few elements: " + elements, 1, elements < ROOM ? 1 : 0);
        test.useUp(core);
        Set<Object> after = test.objectsOf(core);
        test.check.same("elements", elements, test.elements);
        test.check.same("objects", before.size(), after.size());
        after.removeAll(before);
        test.check.same("new objects", 0, after.size());
        test.check.end();
    }

    /** Every kind of ending, and TEXTS that are read again, in some 512 calls. */
    private void useUp(BoxedCore core) {
        int[] seen = new int[5];
        for (int turn = 0; turn < CALLS / CALLS_A_TURN; turn++) {
            core.argument(turn % 2 == 0 ? 3 : 40);
            seen[core.run(1, true, 20000)]++;
            core.argument(12);
            seen[core.run(4, true, 20000)]++;
            seen[core.run(2, true, turn * 10)]++;
            core.feed(1, ' ');
            check.same("compile again", 5, core.compile());
        }
        check.same("runs that end well", 1, seen[1] > 0 ? 1 : 0);
        check.same("runs without STEPS", 1, seen[2] > 0 ? 1 : 0);
        check.same("runs too deep", 1, seen[3] > 0 ? 1 : 0);
        check.same("runs with too much", 1, seen[4] > 0 ? 1 : 0);
    }

    private Set<Object> objectsOf(Object root) throws IllegalAccessException {
        Set<Object> met = Collections.newSetFromMap(new IdentityHashMap<>());
        Deque<Object> left = new ArrayDeque<>();
        left.add(root);
        met.add(root);
        elements = 0;
        while (!left.isEmpty()) {
            Object one = left.remove();
            if (one.getClass().isArray()) {
                elements += Array.getLength(one);
            } else {
                countFields(one, met, left);
            }
        }
        return met;
    }

    private void countFields(Object one, Set<Object> met, Deque<Object> left)
            throws IllegalAccessException {
        for (Field field : one.getClass().getDeclaredFields()) {
            if (Modifier.isStatic(field.getModifiers())) {
                continue;
            }
            elements++;
            field.setAccessible(true);
            Object inside = field.getType().isPrimitive() ? null : field.get(one);
            if (inside != null && met.add(inside)) {
                left.add(inside);
            }
        }
    }
}

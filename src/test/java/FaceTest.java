import java.lang.reflect.Constructor;
import java.lang.reflect.Field;
import java.lang.reflect.Method;
import java.lang.reflect.Modifier;
import java.util.Arrays;
import java.util.Set;
import java.util.TreeSet;

/** The public face: every member that the document names, and no other. */
final class FaceTest {
    private static final String[] FACE = {
        "public static final int BoxedCore.NONE",
        "public BoxedCore()",
        "public int BoxedCore.feed(int,long) throws java.lang.IllegalArgumentException",
        "public int BoxedCore.wipe()",
        "public int BoxedCore.compile()",
        "public int BoxedCore.place()",
        "public int BoxedCore.defs()",
        "public int BoxedCore.def(int,int) throws java.lang.IndexOutOfBoundsException",
        "public int BoxedCore.argument(long) throws java.lang.IllegalStateException",
        "public int BoxedCore.run(int,boolean,int) throws "
            + "java.lang.IndexOutOfBoundsException,java.lang.IllegalArgumentException",
        "public int BoxedCore.told(int) throws java.lang.IndexOutOfBoundsException",
        "public int BoxedCore.sort(int)",
        "public long BoxedCore.result(int)",
    };

    public static void main(String[] args) {
        Check check = new Check();
        Set<String> due = new TreeSet<>(Arrays.asList(FACE));
        Set<String> found = new TreeSet<>();
        for (Field field : BoxedCore.class.getDeclaredFields()) {
            if (!Modifier.isPrivate(field.getModifiers())) {
                found.add(field.toGenericString());
            }
        }
        for (Constructor<?> made : BoxedCore.class.getDeclaredConstructors()) {
            found.add(made.toGenericString());
        }
        for (Method method : BoxedCore.class.getDeclaredMethods()) {
            if (!Modifier.isPrivate(method.getModifiers())) {
                found.add(method.toGenericString());
            }
        }
        for (String member : due) {
            check.same(member, 1, found.contains(member) ? 1 : 0);
        }
        for (String member : found) {
            check.same("wanted: " + member, 1, due.contains(member) ? 1 : 0);
        }
        int modifiers = BoxedCore.class.getModifiers();
        check.same("public", 1, Modifier.isPublic(modifiers) ? 1 : 0);
        check.same("final", 1, Modifier.isFinal(modifiers) ? 1 : 0);
        namesOfTheFaceAreItsOwn(check);
        check.end();
    }

    private static void namesOfTheFaceAreItsOwn(Check check) {
        Set<String> names = new TreeSet<>();
        for (Method method : BoxedCore.class.getMethods()) {
            if (method.getDeclaringClass() == BoxedCore.class) {
                names.add(method.getName());
            }
        }
        for (Class<?> inside : BoxedCore.class.getDeclaredClasses()) {
            for (Method method : inside.getDeclaredMethods()) {
                check.same(inside + " " + method.getName(), 0,
                        names.contains(method.getName()) ? 1 : 0);
            }
        }
    }
}

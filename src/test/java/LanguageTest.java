import java.lang.reflect.Constructor;
import java.lang.reflect.Field;
import java.lang.reflect.Method;
import java.lang.reflect.Modifier;

/** The rules of LANGUAGE.md that the compiled class shows: 1, 2, 3, 5, 6 and 11. */
final class LanguageTest {
    private static final int CLASSES = 12;
    private static final int FIELDS = 20;
    private static final int PARAMETERS = 7;

    private final Check check = new Check();

    public static void main(String[] args) {
        LanguageTest test = new LanguageTest();
        Class<?>[] inside = BoxedCore.class.getDeclaredClasses();
        test.holds("at most twelve classes", inside.length + 1 <= CLASSES);
        test.look(BoxedCore.class);
        for (Class<?> one : inside) {
            test.holds(one + " is static", Modifier.isStatic(one.getModifiers()));
            test.holds(one + " is not of the face", !Modifier.isPublic(one.getModifiers())
                    && !Modifier.isProtected(one.getModifiers()));
            test.holds(one + " has no class inside", one.getDeclaredClasses().length == 0);
            test.look(one);
        }
        test.check.end();
    }

    private void holds(String what, boolean held) {
        check.same(what, 1, held ? 1 : 0);
    }

    private void look(Class<?> one) {
        int fields = 0;
        for (Field field : one.getDeclaredFields()) {
            if (Modifier.isStatic(field.getModifiers())) {
                holds(field + " is final", Modifier.isFinal(field.getModifiers()));
                holds(field + " is a constant", isConstant(field.getType()));
            } else {
                fields++;
                holds(field + " is private", Modifier.isPrivate(field.getModifiers()));
                holds(field + " is a number, a row of them, or of an own class", isOfTheRules(field.getType()));
            }
        }
        holds(one + " has at most twenty fields", fields <= FIELDS);
        for (Method method : one.getDeclaredMethods()) {
            holds(method + " is short of parameters", method.getParameterCount() <= PARAMETERS);
            holds(method + " is no lambda", !method.isSynthetic());
        }
        for (Constructor<?> made : one.getDeclaredConstructors()) {
            holds(made + " is short of parameters", made.getParameterCount() <= PARAMETERS);
            holds(made + " throws nothing", made.getExceptionTypes().length == 0);
        }
    }

    private static boolean isConstant(Class<?> type) {
        return type == int.class || type == long.class || type == boolean.class
                || type == char.class || type == String.class;
    }

    /** Narrower than rule 3: what this program needs of it. */
    private static boolean isOfTheRules(Class<?> type) {
        Class<?> part = type.isArray() ? type.getComponentType() : type;
        return part == int.class || part == long.class || part == boolean.class
                || part.getDeclaringClass() == BoxedCore.class;
    }
}

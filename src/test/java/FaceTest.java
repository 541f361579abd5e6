import java.lang.reflect.Constructor;
import java.lang.reflect.Field;
import java.lang.reflect.Method;
import java.lang.reflect.Modifier;
import java.util.Arrays;
import java.util.Set;
import java.util.TreeSet;

/** The class shows the document's face and nothing else, and has no state that objects share. */
public final class FaceTest {
    private static final Set<String> METHODS = new TreeSet<>(Arrays.asList(
            "boolean put(long)", "void wipe()", "boolean action(int, int)",
            "boolean attribute(int, int, boolean)", "boolean scheme(long)", "void reset()", "int clean()",
            "long output(int)", "int rounds()", "int nodes()", "int node(int)", "long text(int, int)",
            "int length(int, int)", "long value(int, int, int)"));
    private static final Set<String> CONSTANTS = new TreeSet<>(Arrays.asList(
            "REJECTED=-1", "NONE=-1", "KEEP=0", "UNWRAP=1", "DROP=2", "TEXT=1", "COMMENT=2", "ELEMENT=3",
            "EVERY=-1"));

    private FaceTest() {}

    public static void main(String[] args) throws IllegalAccessException {
        int modifiers = MarkupSieve.class.getModifiers();
        Check.yes("the class is public", Modifier.isPublic(modifiers));
        Check.yes("the class is final", Modifier.isFinal(modifiers));
        Check.same("the methods", methods(), METHODS);
        Check.same("the constants", constants(), CONSTANTS);
        Constructor<?>[] constructors = MarkupSieve.class.getDeclaredConstructors();
        Check.same("one constructor", constructors.length, 1);
        Check.yes("it is public", Modifier.isPublic(constructors[0].getModifiers()));
        Check.same("it has no parameters", constructors[0].getParameterCount(), 0);
        noSharedState(MarkupSieve.class);
        for (Class<?> inside : MarkupSieve.class.getDeclaredClasses()) {
            noSharedState(inside);
            Check.no("class inside is public", Modifier.isPublic(inside.getModifiers()));
        }
        objectsAreApart();
        Check.finish();
    }

    private static Set<String> methods() {
        Set<String> shown = new TreeSet<>();
        for (Method method : MarkupSieve.class.getDeclaredMethods()) {
            if (!Modifier.isPrivate(method.getModifiers()) && !method.isSynthetic()) {
                String parameters = Arrays.toString(method.getParameterTypes());
                shown.add(method.getReturnType() + " " + method.getName() + "("
                        + parameters.substring(1, parameters.length() - 1) + ")");
            }
        }
        return shown;
    }

    private static Set<String> constants() throws IllegalAccessException {
        Set<String> shown = new TreeSet<>();
        for (Field field : MarkupSieve.class.getDeclaredFields()) {
            if (!Modifier.isPrivate(field.getModifiers()) && !field.isSynthetic()) {
                shown.add(field.getName() + "=" + field.getInt(null));
            }
        }
        return shown;
    }

    private static void noSharedState(Class<?> type) {
        for (Field field : type.getDeclaredFields()) {
            boolean apart = !Modifier.isStatic(field.getModifiers()) || Modifier.isFinal(field.getModifiers());
            Check.yes("static field is final: " + field, apart);
        }
    }

    private static void objectsAreApart() {
        Sieve one = Sieves.keeping("b");
        Sieve other = new Sieve();
        Sieves.feed(one, "<b>1");
        Sieves.feed(other, "<b>2");
        one.clean();
        other.clean();
        Check.same("one", Sieves.output(one), "<b>1</b>");
        Check.same("other", Sieves.output(other), "2");
    }
}

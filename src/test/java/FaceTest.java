import java.lang.reflect.Constructor;
import java.lang.reflect.Field;
import java.lang.reflect.Method;
import java.lang.reflect.Modifier;
import java.util.Arrays;
import java.util.Set;
import java.util.TreeSet;

/** The document's public face, and rule 1 of LANGUAGE.md: these members and no others can be seen from outside. */
public final class FaceTest {
    private static final String NO_SUCH = " throws NoSuchElementException";
    private static final String BOTH = " throws NoSuchElementException, IllegalArgumentException";
    private static final String[] METHODS = {
        "int feed(int, int, int, int, int)", "int land(int) throws IllegalArgumentException", "int fault()",
        "int count(int)" + NO_SUCH, "int person(int, int)" + NO_SUCH, "int sky(int, int)" + NO_SUCH,
        "int weather(int, int)" + NO_SUCH, "int field(int, int)" + NO_SUCH, "int front(int, int)" + BOTH,
        "int kin(int, int)" + NO_SUCH, "int go(int, int)" + NO_SUCH, "boolean wed(int, int)" + NO_SUCH,
        "int die(int)" + NO_SUCH, "int pawn(int, int, int, int)" + NO_SUCH, "int days(int)", "int undo()",
        "int heir(int, int, int)" + BOTH, "int failing()", "int contested(int)" + NO_SUCH, "int deaths(int, int, int)" + BOTH,
        "int death(int)" + NO_SUCH, "int arrange()", "int post(int)" + NO_SUCH, "int seatings()", "int seat(int)" + NO_SUCH,
        "int see(int, int)" + NO_SUCH, "int forget()", "int fits(int)" + NO_SUCH, "int suitors(int, int, int)" + BOTH,
        "int century(int, int, int)" + BOTH, "void image()", "boolean restore()"};

    public static void main(String[] args) {
        Due.is("the class", Modifier.toString(SkyHeirs.class.getModifiers()), "public final");
        methods();
        constructors();
        fields();
        inside();
        Due.end("FaceTest");
    }

    private static String names(Class<?>[] types) {
        return String.join(", ", Arrays.stream(types).map(Class::getSimpleName).toList());
    }

    private static void methods() {
        Set<String> seen = new TreeSet<>();
        Set<String> open = new TreeSet<>();
        Set<String> hidden = new TreeSet<>();
        for (Method m : SkyHeirs.class.getDeclaredMethods()) {
            if (Modifier.isPrivate(m.getModifiers())) {
                hidden.add(m.getName());
            } else {
                String thrown = names(m.getExceptionTypes());
                String told = m.getReturnType() + " " + m.getName() + "(" + names(m.getParameterTypes()) + ")";
                seen.add(told + (thrown.isEmpty() ? "" : " throws " + thrown));
                open.add(m.getName());
                Due.is(m.getName(), Modifier.toString(m.getModifiers()), "public");
            }
        }
        Due.is("the methods", seen.toString(), new TreeSet<>(Arrays.asList(METHODS)).toString());
        hidden.retainAll(open);
        Due.is("private ones of the same name", hidden.toString(), "[]");
    }

    private static void constructors() {
        Constructor<?>[] all = SkyHeirs.class.getDeclaredConstructors();
        Due.is("constructors", all.length, 1);
        Due.is("public", Modifier.isPublic(all[0].getModifiers()), true);
        Due.is("without arguments", all[0].getParameterCount(), 0);
    }

    private static void fields() {
        Set<String> open = new TreeSet<>();
        for (Field f : SkyHeirs.class.getDeclaredFields()) {
            if (!Modifier.isPrivate(f.getModifiers())) {
                open.add(Modifier.toString(f.getModifiers()) + " " + f.getType() + " " + f.getName());
            }
        }
        Due.is("the constants", open.toString(), "[public static final int NONE]");
        Due.is("NONE", SkyHeirs.NONE, -1);
    }

    private static void inside() {
        for (Class<?> inner : SkyHeirs.class.getDeclaredClasses()) {
            int bits = inner.getModifiers();
            Due.is(inner + " is seen", Modifier.isPublic(bits) || Modifier.isProtected(bits), false);
            Due.is(inner + " is static", Modifier.isStatic(bits), true);
        }
    }
}

import java.io.IOException;
import java.lang.reflect.Constructor;
import java.lang.reflect.Executable;
import java.lang.reflect.Field;
import java.lang.reflect.Method;
import java.lang.reflect.Modifier;
import java.lang.reflect.Parameter;
import java.nio.file.Files;
import java.nio.file.Path;
import java.util.Arrays;
import java.util.Set;
import java.util.TreeSet;
import java.util.stream.Collectors;

/** The public face is the document's, line by line, and rule 1 of LANGUAGE.md: no other member can be seen from outside. */
public final class FaceTest {
    private static final Path DOCUMENT = Path.of("../shared/DOC.md");
    private static final int METHODS = 32;

    public static void main(String[] args) throws IOException {
        face();
        names();
        inside();
        Due.end("FaceTest");
    }

    private static void face() throws IOException {
        String document = Files.readString(DOCUMENT);
        int start = document.indexOf("```java\n", document.indexOf("## The public face")) + 8;
        Set<String> due = new TreeSet<>();
        document.substring(start, document.indexOf("```", start)).lines().map(String::strip)
                .filter(line -> line.startsWith("public ")).forEach(due::add);
        Due.is("lines of the face: the class, the constant, the constructor, the methods", due.size(), 3 + METHODS);
        Due.is("the face", String.join("\n", seen()), String.join("\n", due));
        Due.is("NONE", SkyHeirs.NONE, -1);
    }

    /** All that isn't private, told as the document tells it; the names of parameters come by javac's -parameters. */
    private static Set<String> seen() {
        Set<String> seen = new TreeSet<>();
        seen.add(Modifier.toString(SkyHeirs.class.getModifiers()) + " class SkyHeirs {");
        for (Field f : SkyHeirs.class.getDeclaredFields()) {
            if (!Modifier.isPrivate(f.getModifiers())) {
                seen.add(Modifier.toString(f.getModifiers()) + " " + f.getType() + " " + f.getName() + " = " + valueOf(f) + ";");
            }
        }
        for (Constructor<?> c : SkyHeirs.class.getDeclaredConstructors()) {
            seen.add(Modifier.toString(c.getModifiers()) + " " + c.getDeclaringClass().getSimpleName() + rest(c));
        }
        for (Method m : SkyHeirs.class.getDeclaredMethods()) {
            if (!Modifier.isPrivate(m.getModifiers())) {
                seen.add(Modifier.toString(m.getModifiers()) + " " + m.getReturnType() + " " + m.getName() + rest(m));
            }
        }
        return seen;
    }

    private static String valueOf(Field f) {
        try {
            return String.valueOf(f.get(null));
        } catch (IllegalAccessException | NullPointerException e) {
            return e.toString();
        }
    }

    private static String rest(Executable e) {
        String parameters = Arrays.stream(e.getParameters()).map(FaceTest::told).collect(Collectors.joining(", ", "(", ")"));
        String thrown = Arrays.stream(e.getExceptionTypes()).map(Class::getSimpleName).collect(Collectors.joining(", "));
        return parameters + (thrown.isEmpty() ? ";" : " throws " + thrown + ";");
    }

    private static String told(Parameter p) {
        return p.getType() + " " + p.getName();
    }

    /** No private method bears the name of a public one, here or in a class inside, and nothing is inherited. */
    private static void names() {
        Set<String> open = new TreeSet<>();
        Set<String> hidden = new TreeSet<>();
        for (Method m : SkyHeirs.class.getDeclaredMethods()) {
            (Modifier.isPrivate(m.getModifiers()) ? hidden : open).add(m.getName());
        }
        for (Class<?> inner : SkyHeirs.class.getDeclaredClasses()) {
            Arrays.stream(inner.getDeclaredMethods()).filter(m -> Modifier.isPrivate(m.getModifiers()))
                    .forEach(m -> hidden.add(m.getName()));
        }
        hidden.retainAll(open);
        Due.is("private ones of the same name", hidden.toString(), "[]");
        Due.is("what it extends", SkyHeirs.class.getSuperclass().getName(), "java.lang.Object");
        Due.is("what it implements", SkyHeirs.class.getInterfaces().length, 0);
    }

    private static void inside() {
        for (Class<?> inner : SkyHeirs.class.getDeclaredClasses()) {
            int bits = inner.getModifiers();
            Due.is(inner + " is seen", Modifier.isPublic(bits) || Modifier.isProtected(bits), false);
            Due.is(inner + " is static", Modifier.isStatic(bits), true);
        }
    }
}

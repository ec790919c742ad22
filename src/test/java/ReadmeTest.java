import java.io.IOException;
import java.lang.reflect.Method;
import java.lang.reflect.Modifier;
import java.net.URISyntaxException;
import java.net.URL;
import java.net.URLClassLoader;
import java.nio.file.Files;
import java.nio.file.Path;
import java.util.ArrayList;
import java.util.List;
import java.util.Set;
import java.util.TreeSet;
import java.util.regex.Matcher;
import java.util.regex.Pattern;
import javax.tools.JavaCompiler;
import javax.tools.ToolProvider;

/** README.md is right: what it prints compiles, each call answers what stands behind it, its table names every test. */
public final class ReadmeTest {
    private static final Path PAGE = Path.of("README.md");
    private static final Path TESTS = Path.of("src/test/java");
    private static final Path MADE = Path.of("build/readme");
    /** A call, all of it, and its answer; behind a colon the page says why. */
    private static final Pattern ANSWERED = Pattern.compile("(?s)(.*;)\\s*// (-?\\w+)(: .*)?");
    private static final Pattern ROW = Pattern.compile("\\| (\\w+Test) \\| (.+) \\|");
    private static final int PROMISES = 33;

    /** A call as the page prints it, and what it answers there. */
    private record Asked(String call, String due) { }

    private final StringBuilder helpers = new StringBuilder();
    private final List<String> statements = new ArrayList<>();
    private final List<Asked> asked = new ArrayList<>();

    public static void main(String[] args) throws IOException, ReflectiveOperationException, URISyntaxException {
        String page = Files.readString(PAGE);
        ReadmeTest test = new ReadmeTest();
        test.read(page);
        test.run();
        test.everyCallIsShown();
        table(page);
        Due.is("the page says how long an object is used", page.contains("at most 512 calls"), true);
        Due.end("ReadmeTest");
    }

    private void read(String page) {
        for (String block : blocks(page)) {
            if (block.startsWith("static ")) {
                helpers.append(block);
            } else {
                statements.addAll(statements(block));
            }
        }
    }

    private static List<String> blocks(String page) {
        List<String> blocks = new ArrayList<>();
        Matcher m = Pattern.compile("(?s)```java\\n(.*?)```").matcher(page);
        while (m.find()) {
            blocks.add(m.group(1));
        }
        return blocks;
    }

    /** A statement ends on a line on which the code ends with ';'; what stands behind it there is its comment. */
    private static List<String> statements(String block) {
        List<String> statements = new ArrayList<>();
        StringBuilder statement = new StringBuilder();
        for (String line : block.split("\n")) {
            boolean isComment = line.startsWith("//");
            statement.append(statement.isEmpty() ? "" : "\n").append(line);
            if (isComment || line.replaceFirst("\\s*//.*", "").endsWith(";")) {
                statements.add(statement.toString());
                statement.setLength(0);
            }
        }
        Due.is("what ends no statement", statement.toString(), "");
        return statements;
    }

    /** Once as printed, to see that it compiles, and once with each answer put into a list. */
    private String source() {
        StringBuilder checked = new StringBuilder();
        for (String statement : statements) {
            Matcher m = ANSWERED.matcher(statement);
            if (m.matches()) {
                asked.add(new Asked(m.group(1), m.group(2)));
                checked.append("all.add(of(() -> ").append(m.group(1), 0, m.group(1).length() - 1).append("));\n");
            } else {
                boolean isOpen = statement.matches("(?s)//.*|SkyHeirs \\w+ = new SkyHeirs\\(\\);|\\w+\\.image\\(\\);");
                Due.is("without an answer: " + statement, isOpen, true);
                checked.append(statement).append('\n');
            }
        }
        return "public final class ReadmeUse {\n" + helpers
                + "static void asPrinted() {\n" + String.join("\n", statements) + "\n}\n"
                + "static String of(java.util.concurrent.Callable<Object> call) {\n"
                + "try { return String.valueOf(call.call()); }\n"
                + "catch (Exception e) { return e.getClass().getSimpleName(); }\n}\n"
                + "public static java.util.List<String> answers() {\n"
                + "java.util.List<String> all = new java.util.ArrayList<>();\n" + checked + "return all;\n}\n}\n";
    }

    private void run() throws IOException, ReflectiveOperationException, URISyntaxException {
        Files.createDirectories(MADE);
        Path file = MADE.resolve("ReadmeUse.java");
        Files.writeString(file, source());
        JavaCompiler compiler = ToolProvider.getSystemJavaCompiler();
        Path own = Path.of(SkyHeirs.class.getProtectionDomain().getCodeSource().getLocation().toURI());
        int failed = compiler.run(null, System.out, System.out, "-Xlint:all", "-Werror", "-cp", own.toString(),
                "-d", MADE.toString(), file.toString());
        Due.is("what README.md prints compiles", failed, 0);
        if (failed == 0) {
            compare();
        }
    }

    private void compare() throws IOException, ReflectiveOperationException {
        try (URLClassLoader loader = new URLClassLoader(new URL[] {MADE.toUri().toURL()})) {
            List<?> got = (List<?>) loader.loadClass("ReadmeUse").getMethod("answers").invoke(null);
            Due.is("how many answers", got.size(), asked.size());
            for (int i = 0; i < asked.size(); i++) {
                Due.is("README.md: " + asked.get(i).call(), String.valueOf(got.get(i)), asked.get(i).due());
            }
        }
    }

    private void everyCallIsShown() {
        String all = String.join("\n", statements) + helpers;
        for (Method m : SkyHeirs.class.getDeclaredMethods()) {
            if (Modifier.isPublic(m.getModifiers())) {
                Due.is(m.getName() + " is shown", all.contains("." + m.getName() + "("), true);
            }
        }
    }

    private static void table(String page) throws IOException {
        Set<String> named = new TreeSet<>();
        Set<Integer> promises = new TreeSet<>();
        Matcher row = ROW.matcher(page);
        while (row.find()) {
            Due.is(row.group(1) + " is named once", named.add(row.group(1)), true);
            if (!row.group(1).equals("PromisesTest")) {
                promisesOf(row.group(2), promises);
            }
        }
        Set<String> there = new TreeSet<>();
        try (var files = Files.list(TESTS)) {
            files.map(file -> file.getFileName().toString().replace(".java", "")).filter(name -> name.endsWith("Test"))
                    .forEach(there::add);
        }
        Due.is("the tests that the table names", named.toString(), there.toString());
        Due.is("promises with a test of their own", promises.size(), PROMISES);
    }

    /** "12 to 17: .." or "30, 31: .." */
    private static void promisesOf(String told, Set<Integer> promises) {
        Matcher some = Pattern.compile("(\\d+)( to |, )(\\d+): .*").matcher(told);
        if (some.matches()) {
            for (int i = Integer.parseInt(some.group(1)); i <= Integer.parseInt(some.group(3)); i++) {
                Due.is("promise " + i + " is one, named once", i >= 1 && i <= PROMISES && promises.add(i), true);
            }
        }
    }
}

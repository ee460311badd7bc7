import java.io.ByteArrayOutputStream;
import java.io.File;
import java.io.IOException;
import java.io.PrintStream;
import java.lang.reflect.Method;
import java.lang.reflect.Modifier;
import java.net.URL;
import java.net.URLClassLoader;
import java.nio.charset.StandardCharsets;
import java.nio.file.Files;
import java.nio.file.Path;
import java.util.Set;
import java.util.TreeSet;
import java.util.regex.Matcher;
import java.util.regex.Pattern;
import javax.tools.ToolProvider;

/** README.md as one follows it: its program prints what stands there, its tables name every call and every test. */
public final class ReadmeTest {
    private static final Path TESTS = Path.of("src/test/java");

    private ReadmeTest() {
    }

    public static void main(String[] args) throws IOException, ReflectiveOperationException {
        String readme = Files.readString(Path.of("README.md"));
        exampleAsPrinted(readme);
        everyCall(readme);
        everyTest(readme);
        everyFile(readme);
        Due.close();
    }

    private static void holds(String what, boolean is) {
        Due.is(what, is ? 1 : 0, 1);
    }

    /** What stands in the first block of a language, or a text that is no program. */
    private static String block(String readme, String language) {
        Matcher found = Pattern.compile("(?s)\n```" + language + "\n(.*?)```\n").matcher(readme);
        return found.find() ? found.group(1) : "";
    }

    private static void exampleAsPrinted(String readme) throws IOException, ReflectiveOperationException {
        String program = block(readme, "java");
        boolean whole = program.contains("public final class Example {") && program.contains("void main(");
        holds("README.md has a whole program", whole);
        if (!whole) {
            return;
        }
        Path at = Files.createTempDirectory("readme");
        Path source = Files.writeString(at.resolve("Example.java"), program);
        int compiled = ToolProvider.getSystemJavaCompiler().run(null, null, null,
            "-d", at.toString(), "-cp", "", "src/main/java/CoinsOfLast.java", source.toString());
        Due.is("javac of the program", compiled, 0);
        if (compiled == 0) {
            String printed = printed(at);
            holds("the program prints what README.md says, and not\n" + printed, printed.equals(block(readme, "text")));
        }
        for (File file : at.toFile().listFiles()) {
            Files.delete(file.toPath());
        }
        Files.delete(at);
    }

    private static String printed(Path at) throws IOException, ReflectiveOperationException {
        ByteArrayOutputStream bytes = new ByteArrayOutputStream();
        PrintStream before = System.out;
        try (URLClassLoader loader = new URLClassLoader(new URL[] {at.toUri().toURL()}, null);
            PrintStream caught = new PrintStream(bytes, true, StandardCharsets.UTF_8)) {
            System.setOut(caught);
            loader.loadClass("Example").getMethod("main", String[].class).invoke(null, (Object) new String[0]);
        } finally {
            System.setOut(before);
        }
        return bytes.toString(StandardCharsets.UTF_8).replace(System.lineSeparator(), "\n");
    }

    private static void everyCall(String readme) {
        for (Method m : CoinsOfLast.class.getDeclaredMethods()) {
            if (Modifier.isPublic(m.getModifiers())) {
                Matcher found = Pattern.compile("\\| .*`" + m.getName() + "\\(([^)`]*)\\)`.*\\|").matcher(readme);
                boolean told = found.find();
                holds("README.md tells of " + m.getName() + "()", told);
                int names = told && !found.group(1).isEmpty() ? found.group(1).split(", ").length : 0;
                Due.is("numbers that " + m.getName() + "() takes by README.md", names, m.getParameterCount());
            }
        }
    }

    private static void everyTest(String readme) {
        Set<String> told = new TreeSet<>();
        Matcher rows = Pattern.compile("(?m)^\\| `(\\w+Test)` \\|").matcher(readme);
        while (rows.find()) {
            told.add(rows.group(1));
        }
        for (String name : TESTS.toFile().list()) {
            if (name.endsWith("Test.java")) {
                String test = name.substring(0, name.length() - ".java".length());
                holds("README.md tells of " + test, told.remove(test));
            }
        }
        holds("README.md tells of tests that are not there: " + told, told.isEmpty());
    }

    /** The files that README.md bids one compile or run are there. */
    private static void everyFile(String readme) {
        Matcher paths = Pattern.compile("(?<![\\w./])(src/[\\w/]+\\.java|\\.\\./shared/[\\w/]+\\.\\w+|\\.ci/\\w+|NOTES\\.md)").matcher(readme);
        int number = 0;
        while (paths.find()) {
            holds("README.md names " + paths.group(1) + ", which is there", Files.exists(Path.of(paths.group(1))));
            number++;
        }
        holds("README.md names files", number > 0);
    }
}

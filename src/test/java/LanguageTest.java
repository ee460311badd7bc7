import java.io.IOException;
import java.lang.reflect.Array;
import java.lang.reflect.Constructor;
import java.lang.reflect.Field;
import java.lang.reflect.Method;
import java.lang.reflect.Modifier;
import java.nio.file.Files;
import java.nio.file.Path;
import java.util.HashSet;
import java.util.Set;
import java.util.TreeSet;
import java.util.regex.Matcher;
import java.util.regex.Pattern;

/** What of LANGUAGE.md can be seen from outside: the face, the sizes, the words that may not stand in the class. */
public final class LanguageTest {
    private static final String[] FACE = {
        "int sort(int, int)", "int sorts(int, int, int)", "int purse(int, int)", "int thing(int, int)", "int rule(int, int)",
        "int window(int, int)", "int mend(int, int, int)", "int of(int, int)", "int feed(int)", "int law(int)", "int rate(int, int)",
        "int paid(int, int, int)", "int amounts(int, int)", "int spend(int, int, int)", "int buy(int)", "int like(int, int)",
        "int standIn(int, int, int, int)", "int change(int, int, int)", "int way(int, int, int, int)", "int round(int, int, int, int)",
        "int waits(int, int, int, int)", "int swap(int, int)", "int kept(int)", "int heap(int, int, int)", "int give(int)",
        "int led(int)", "int image()", "int back()", "int undo()", "int redo()", "int body(int)", "int act(int, int, int)",
        "int trace(int)", "int keep(int, int)", "int row(int, int, int)", "int put(int, int, long)", "long element(int, int)",
        "int shift(int, int, int, int, int)", "int taken(int, int)", "int count(int)",
    };
    private static final Path SOURCE = Path.of("src/main/java/CoinsOfLast.java");

    private LanguageTest() {
    }

    public static void main(String[] args) throws IOException, IllegalAccessException {
        constants();
        face();
        classesInside();
        room();
        String code = withoutComments(Files.readString(SOURCE));
        words(code);
        sizes(code);
        onlyConstructorsMake(code);
        Due.close();
    }

    private static void constants() {
        Due.is("BAD", CoinsOfLast.BAD, -1);
        Due.is("NOT", CoinsOfLast.NOT, -2);
        Due.is("FULL", CoinsOfLast.FULL, -3);
        Due.is("STATE", CoinsOfLast.STATE, -5);
        Due.is("VOID", CoinsOfLast.VOID, -2000000000);
    }

    private static void no(String what, boolean is) {
        Due.is(what, is ? 1 : 0, 0);
    }

    private static String signature(Method m) {
        StringBuilder types = new StringBuilder();
        for (Class<?> type : m.getParameterTypes()) {
            types.append(types.length() > 0 ? ", " : "").append(type.getName());
        }
        return m.getReturnType().getName() + " " + m.getName() + "(" + types + ")";
    }

    private static void face() {
        Class<?> c = CoinsOfLast.class;
        no("the class is not public and final", !Modifier.isPublic(c.getModifiers()) || !Modifier.isFinal(c.getModifiers()));
        Set<String> due = new TreeSet<>(Set.of(FACE));
        Set<String> names = new HashSet<>();
        for (Method m : c.getDeclaredMethods()) {
            if (Modifier.isPublic(m.getModifiers())) {
                no("not of the face: " + signature(m), !due.remove(signature(m)) || Modifier.isStatic(m.getModifiers()));
                names.add(m.getName());
            }
        }
        no("missing: " + due, !due.isEmpty());
        Set<String> constants = new TreeSet<>(Set.of("BAD", "NOT", "FULL", "STATE", "VOID"));
        for (Field f : c.getDeclaredFields()) {
            boolean open = !Modifier.isPrivate(f.getModifiers());
            no("field " + f.getName(), open && (!constants.contains(f.getName()) || !Modifier.isPublic(f.getModifiers())));
        }
        no("constructors", c.getDeclaredConstructors().length != 1);
        for (Constructor<?> k : c.getDeclaredConstructors()) {
            no("constructor", !Modifier.isPublic(k.getModifiers()) || k.getParameterCount() != 0);
        }
        privateNames(c, names);
        for (Class<?> inside : c.getDeclaredClasses()) {
            privateNames(inside, names);
        }
    }

    private static void privateNames(Class<?> c, Set<String> names) {
        for (Method m : c.getDeclaredMethods()) {
            boolean open = Modifier.isPublic(m.getModifiers()) || Modifier.isProtected(m.getModifiers());
            no(c.getName() + "." + m.getName() + " bears a public name", names.contains(m.getName()) && c != CoinsOfLast.class);
            no(c.getName() + "." + m.getName() + " is open", c != CoinsOfLast.class && open);
            no(m.getName() + " is neither public nor private",
                c == CoinsOfLast.class && !Modifier.isPublic(m.getModifiers()) && !Modifier.isPrivate(m.getModifiers()));
            no(m.getName() + " bears a public name",
                c == CoinsOfLast.class && Modifier.isPrivate(m.getModifiers()) && names.contains(m.getName()));
            no(m.getName() + " takes more than seven", m.getParameterCount() > 7);
        }
    }

    private static void classesInside() {
        no("too many classes", CoinsOfLast.class.getDeclaredClasses().length > 11);
        fields(CoinsOfLast.class);
        for (Class<?> c : CoinsOfLast.class.getDeclaredClasses()) {
            no(c.getName() + " is open or not static",
                !Modifier.isStatic(c.getModifiers()) || Modifier.isPublic(c.getModifiers()) || Modifier.isProtected(c.getModifiers()));
            fields(c);
        }
    }

    /** All objects of a run live in one room; a new object takes a small part of it, and no call makes another one. */
    private static void room() throws IllegalAccessException {
        int[] taken = new int[2];
        measure(new CoinsOfLast(), taken);
        no("an object takes " + taken[0] + " objects and arrays", taken[0] > 80);
        no("an object takes " + taken[1] + " fields and elements", taken[1] > 6000);
    }

    /** Counts objects and arrays, and fields and elements; no object of the class stands in two places. */
    private static void measure(Object o, int[] taken) throws IllegalAccessException {
        if (o == null) {
            return;
        }
        taken[0]++;
        if (o.getClass().isArray()) {
            taken[1] += Array.getLength(o);
            for (int i = 0; i < Array.getLength(o) && !o.getClass().getComponentType().isPrimitive(); i++) {
                measure(Array.get(o, i), taken);
            }
            return;
        }
        for (Field f : o.getClass().getDeclaredFields()) {
            if (!Modifier.isStatic(f.getModifiers())) {
                taken[1]++;
                f.setAccessible(true);
                if (!f.getType().isPrimitive()) {
                    measure(f.get(o), taken);
                }
            }
        }
    }

    private static void fields(Class<?> c) {
        int number = 0;
        for (Field f : c.getDeclaredFields()) {
            boolean fixed = Modifier.isStatic(f.getModifiers());
            number += fixed ? 0 : 1;
            no(c.getName() + "." + f.getName() + " is static and not final", fixed && !Modifier.isFinal(f.getModifiers()));
        }
        no(c.getName() + " has " + number + " fields", number > 20);
    }

    /** The code without comments, and with every char in quotes as 'q'. */
    private static String withoutComments(String source) {
        return source.replaceAll("(?s)/\\*.*?\\*/", " ").replaceAll("'(\\\\.|[^\\\\])'", "'q'").replaceAll("//[^\n]*", " ");
    }

    private static void words(String code) {
        String[] never = {"throw", "throws", "try", "catch", "finally", "synchronized", "assert", "volatile", "native", "instanceof",
            "Exception", "Error", "Object", "Thread", "Random", "System\\.(?!arraycopy)\\w+", "Math\\.(?!max|min|abs)\\w+",
            "Arrays\\.(?!fill)\\w+", "\\w+Exact", "equals", "hashCode", "toString", "protected", "package", "var"};
        for (String word : never) {
            Matcher found = Pattern.compile("\\b" + word + "\\b").matcher(code);
            no(word + " stands in the class", found.find());
        }
        no("a lambda or an arrow", code.contains("->"));
        no("a method reference", code.contains("::"));
        no("a text", code.contains("\""));
        no("an annotation", code.contains("@"));
        Matcher imports = Pattern.compile("import\\s+([^;]+);").matcher(code);
        while (imports.find()) {
            no("import " + imports.group(1), !imports.group(1).equals("java.util.Arrays"));
        }
        for (int i = 0; i < code.length(); i++) {
            no("a sign that is not 1 to 127", code.charAt(i) < 1 || code.charAt(i) > 127);
        }
    }

    private static void sizes(String code) {
        int from = -1;
        int at = 0;
        for (String line : code.split("\n")) {
            at++;
            if (line.matches(" {4}( {4})?(private |public |static )*[\\w\\[\\]]+ \\w+\\(.*\\{")) {
                from = at;
            } else if (from > 0 && line.matches(" {4}( {4})?\\}")) {
                no("line " + from + ": a method of more than sixty lines", at - from > 60);
                from = -1;
            }
            no("line " + at + " is long", line.length() > 130);
        }
    }

    private static void onlyConstructorsMake(String code) {
        int at = 0;
        for (String line : code.split("\n")) {
            at++;
            boolean field = line.matches(" +private final [\\w\\[\\]]+ \\w+ = new .*;");
            boolean shelf = line.trim().equals("shelves[s] = new Shelf();");
            no("line " + at + " makes an object in a call", line.contains("new ") && !field && !shelf);
        }
    }
}

import java.io.IOException;
import java.lang.reflect.Constructor;
import java.lang.reflect.Field;
import java.lang.reflect.Member;
import java.lang.reflect.Method;
import java.lang.reflect.Modifier;
import java.nio.file.Files;
import java.nio.file.Path;
import java.util.Arrays;
import java.util.Set;
import java.util.TreeSet;
import java.util.regex.Matcher;
import java.util.regex.Pattern;

/** The public face of the document, and those rules of LANGUAGE.md that can be read off the file. */
public final class FaceTest {
    private static final String[] FACE = {
        "boolean house(int)", "boolean door(int, int, boolean)", "boolean is(int, int)",
        "boolean looks(int, int)", "boolean visible(int)", "boolean round(int, int, int, int)",
        "int look(int)", "int ways()", "int way(int, int)", "int touched(int)", "int honest(int)",
        "int best(int, int, int)", "int cover()", "boolean lay(int)", "int unlike(int)",
        "boolean touch(int)", "int left()", "int leftWay(int)", "int next()", "int tell()",
        "boolean bear(int)", "int tales(int)", "int day()", "int move(int, int, int)"};

    /** What the program uses of the library; all of it stands in LANGUAGE.md's rule 4. */
    private static final Set<String> LIBRARY = Set.of("Integer.bitCount", "Math.min", "Arrays.fill");

    public static void main(String[] args) throws IOException {
        members();
        nestedClasses();
        String code = Files.readString(Path.of("src/main/java/DecoyHouse.java"))
            .replaceAll("(?s)/\\*.*?\\*/", "").replaceAll("//[^\n]*", "");
        words(code);
        library(code);
        Checks.end();
    }

    private static boolean isOpen(Member m) {
        return !Modifier.isPrivate(m.getModifiers()) && !m.isSynthetic();
    }

    private static void members() {
        Class<?> c = DecoyHouse.class;
        Checks.yes("public and final", Modifier.isPublic(c.getModifiers()) && Modifier.isFinal(c.getModifiers()));
        Set<String> open = new TreeSet<>();
        for (Method m : c.getDeclaredMethods()) {
            if (isOpen(m)) {
                String parameters = Arrays.toString(
                    Arrays.stream(m.getParameterTypes()).map(Class::getName).toArray());
                open.add(m.getReturnType().getName() + " " + m.getName() + "("
                    + parameters.substring(1, parameters.length() - 1) + ")");
                Checks.yes(m.getName() + " is public", Modifier.isPublic(m.getModifiers()));
            }
        }
        Checks.same("the methods", open.toString(), new TreeSet<>(Arrays.asList(FACE)).toString());
        for (Constructor<?> k : c.getDeclaredConstructors()) {
            Checks.due("the constructor's parameters", k.getParameterCount(), 0);
        }
        for (Field f : c.getDeclaredFields()) {
            if (isOpen(f)) {
                Checks.same("the constants", f.getName(), "NONE");
            }
        }
        Checks.due("NONE", DecoyHouse.NONE, -1);
    }

    private static void nestedClasses() {
        Set<String> names = new TreeSet<>();
        for (String line : FACE) {
            names.add(line.substring(line.indexOf(' ') + 1, line.indexOf('(')));
        }
        for (Class<?> nested : DecoyHouse.class.getDeclaredClasses()) {
            Checks.yes(nested.getName() + " is static", Modifier.isStatic(nested.getModifiers()));
            Checks.no(nested.getName() + " is public", Modifier.isPublic(nested.getModifiers()));
            for (Method m : nested.getDeclaredMethods()) {
                Checks.no(m + " bears the name of a public one", names.contains(m.getName()));
            }
        }
    }

    private static void words(String code) {
        Matcher bad = Pattern.compile("\\b(throw|throws|try|catch|synchronized|assert|volatile|Random|System"
            + "|hashCode|toString|Exact\\w*|protected|package)\\b|->|::").matcher(code);
        while (bad.find()) {
            Checks.no("a word that LANGUAGE.md rules out: " + bad.group(), true);
        }
        Matcher imports = Pattern.compile("import ([\\w.]+);").matcher(code);
        while (imports.find()) {
            Checks.same("imports", imports.group(1), "java.util.Arrays");
        }
    }

    private static void library(String code) {
        Matcher uses = Pattern.compile("\\b([A-Z]\\w*[a-z]\\w*)\\.(\\w+)").matcher(code.replaceAll("import [^;]+;", ""));
        while (uses.find()) {
            Checks.yes("LANGUAGE.md 4: " + uses.group(), LIBRARY.contains(uses.group()));
        }
    }
}

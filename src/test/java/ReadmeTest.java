import java.io.IOException;
import java.lang.reflect.Method;
import java.lang.reflect.Modifier;
import java.nio.file.DirectoryStream;
import java.nio.file.Files;
import java.nio.file.Path;
import java.util.List;
import java.util.Set;
import java.util.TreeSet;
import java.util.regex.Matcher;
import java.util.regex.Pattern;

/** README.md: each call that it shows has the answer that it gives, and it shows each call of the face. */
public final class ReadmeTest {
    private static final Path README = Path.of("README.md");
    private static final String NEW_OBJECT = "DecoyHouse x = new DecoyHouse();";
    private static final Pattern CALL = Pattern.compile(
        "x\\.(\\w+\\((?:true|false|0x[0-9A-F]+|[-+, 0-9])*\\)); +// (true|false|NONE|\\d+)(: .+)?");

    private final Set<String> shown = new TreeSet<>();
    private DecoyHouse x;
    /** The heading above the calls, which names their promises. */
    private String heading = "";
    private int calls;

    public static void main(String[] args) throws IOException {
        ReadmeTest test = new ReadmeTest();
        test.readAll(Files.readAllLines(README));
        test.eachCallIsShown();
        testsAreNamed();
        Checks.end();
    }

    private void readAll(List<String> lines) {
        boolean inside = false;
        for (int i = 0; i < lines.size(); i++) {
            String line = lines.get(i);
            if (line.startsWith("```")) {
                inside = !inside;
            } else if (inside) {
                readCode("README.md, line " + (i + 1) + ", " + heading, line);
            } else if (line.startsWith("#")) {
                heading = line.replaceAll("^#+ ", "");
            }
        }
        Checks.no("README.md: code without an end", inside);
    }

    private void readCode(String where, String line) {
        Matcher call = CALL.matcher(line);
        if (line.equals(NEW_OBJECT)) {
            x = new DecoyHouse();
            calls = 0;
        } else if (x != null && call.matches()) {
            holds(where + ": " + call.group(1), Call.of(call.group(1)), call.group(2));
        } else {
            Checks.same(where, line, "a new object, or a call on it with its answer");
        }
    }

    private void holds(String what, Call call, String answer) {
        shown.add(call.method().getName());
        calls++;
        Checks.yes(what + ": within the calls allowed", calls <= Script.MOST_CALLS);
        Checks.yes(what + ": the heading names promises", heading.matches(".*\\(promises \\d+ (to|and) \\d+\\)"));
        boolean isTruth = answer.equals("true") || answer.equals("false");
        Checks.yes(what + ": a truth or a number", isTruth == (call.method().getReturnType() == boolean.class));
        Checks.due(what, call.on(x), Call.number(answer));
    }

    private void eachCallIsShown() {
        Set<String> face = new TreeSet<>();
        for (Method m : DecoyHouse.class.getDeclaredMethods()) {
            if (Modifier.isPublic(m.getModifiers())) {
                face.add(m.getName());
            }
        }
        Checks.same("README.md: the calls shown", shown.toString(), face.toString());
    }

    private static void testsAreNamed() throws IOException {
        String text = Files.readString(README);
        Checks.yes("README.md: how the tests are run", text.contains("    .ci/run\n"));
        try (DirectoryStream<Path> tests = Files.newDirectoryStream(Path.of("src/test/java"), "*Test.java")) {
            for (Path test : tests) {
                String name = test.getFileName().toString().replace(".java", "");
                Checks.yes("README.md: " + name, text.contains("`" + name + "`"));
            }
        }
    }
}

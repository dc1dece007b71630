import java.io.File;
import java.io.IOException;
import java.lang.reflect.Method;
import java.lang.reflect.Modifier;
import java.net.URISyntaxException;
import java.nio.file.Files;
import java.nio.file.Path;
import java.util.TreeSet;
import java.util.regex.MatchResult;
import java.util.regex.Matcher;
import java.util.regex.Pattern;
import javax.tools.ToolProvider;

/**
 * What README.md shows: its blocks of Java, as one run, are compiled and gone through, each call with the answer that
 * stands behind it ("year.undo();  // STATE: nothing can be undone"); and its tables. Run in the project's folder.
 */
public final class ReadmeTest {
    private static final Check CHECK = new Check();
    private static final int CALLS_AT_MOST = 512;
    private static final Pattern BLOCK = Pattern.compile("(?ms)^```java\n(.*?)^```$");
    private static final Pattern CALL = Pattern.compile("( *)(year\\.(\\w+)\\(.*\\)); +// ([^:]+)(: \\S.*)?");
    private static final Pattern CONSTANT = Pattern.compile("\\b(BAD|STATE|FULL|NONE|NO)\\b");

    public static void main(String[] args) throws IOException, ReflectiveOperationException, URISyntaxException {
        String readme = Files.readString(Path.of("README.md"));
        String calls = callsOf(readme);
        goThrough(calls);
        constants(readme);
        names("tests", "| `(\\w+Test)` |", readme, namesOfTests());
        names("classes inside", "(?<=\n)| `([A-Z][a-z]+)` |", readme, namesOfClassesInside());
        CHECK.end();
    }

    /** The blocks as lines of a method, in which each call holds its answer against the one that is told. */
    private static String callsOf(String readme) {
        StringBuilder lines = new StringBuilder();
        TreeSet<String> shown = new TreeSet<>();
        for (MatchResult block : BLOCK.matcher(readme).results().toList()) {
            for (String line : block.group(1).split("\n")) {
                lines.append(CALL.matcher(line).replaceFirst(call -> held(call, shown))).append('\n');
                CHECK.holds("README.md: \"" + line + "\" tells an answer if it calls",
                    !line.contains("year.") || CALL.matcher(line).matches());
            }
        }
        CHECK.same("README.md: the calls that it shows", "" + shown, "" + face());
        return lines.toString();
    }

    private static String held(MatchResult call, TreeSet<String> shown) {
        shown.add(call.group(3));
        String name = "README.md: " + call.group(2).replace("\\", "\\\\").replace("\"", "\\\"");
        String due = CONSTANT.matcher(call.group(4)).replaceAll("MuseumYear.$1");
        String line = call.group(1) + "calls++; check.due(\"" + name + "\", " + call.group(2) + ", " + due + ");";
        return Matcher.quoteReplacement(line);
    }

    private static TreeSet<String> face() {
        TreeSet<String> names = new TreeSet<>();
        for (Method method : MuseumYear.class.getDeclaredMethods()) {
            if (Modifier.isPublic(method.getModifiers())) {
                names.add(method.getName());
            }
        }
        return names;
    }

    /** The class is put beside the tests' own, so that whoever removes those removes it too. */
    private static void goThrough(String lines) throws IOException, ReflectiveOperationException, URISyntaxException {
        Path beside = Path.of(ReadmeTest.class.getProtectionDomain().getCodeSource().getLocation().toURI());
        Path source = beside.resolve("ReadmeCalls.java");
        Files.writeString(source, "final class ReadmeCalls {\nstatic int goThrough(Check check) {\nint calls = 0;\n"
            + lines + "return calls;\n}\n}\n");
        int code = ToolProvider.getSystemJavaCompiler().run(null, null, null, "-Xlint:all", "-Werror", "-cp",
            beside + File.pathSeparator + System.getProperty("java.class.path"), "-d", beside.toString(),
            source.toString());
        CHECK.due("README.md: its Java is compiled", code, 0);
        if (code == 0) {
            Method calls = Class.forName("ReadmeCalls").getDeclaredMethod("goThrough", Check.class);
            int made = (Integer) calls.invoke(null, CHECK);
            CHECK.holds("README.md: " + made + " calls are what an object is made for", made <= CALLS_AT_MOST);
        }
    }

    private static void constants(String readme) throws ReflectiveOperationException {
        TreeSet<String> told = new TreeSet<>();
        Pattern rows = Pattern.compile("`(BAD|STATE|FULL|NONE|NO)` (?:\\| |\\()(-\\d+)");
        for (MatchResult row : rows.matcher(readme).results().toList()) {
            told.add(row.group(1));
            CHECK.due("README.md: " + row.group(1), MuseumYear.class.getField(row.group(1)).getInt(null),
                Integer.parseInt(row.group(2)));
        }
        CHECK.due("README.md: constants with their numbers", told.size(), 5);
    }

    private static void names(String what, String row, String readme, TreeSet<String> due) {
        TreeSet<String> told = new TreeSet<>();
        for (MatchResult name : Pattern.compile(row.replace("|", "\\|")).matcher(readme).results().toList()) {
            told.add(name.group(1));
        }
        CHECK.same("README.md: " + what, "" + told, "" + due);
    }

    private static TreeSet<String> namesOfTests() throws IOException {
        TreeSet<String> names = new TreeSet<>();
        try (var files = Files.list(Path.of("src/test/java"))) {
            files.map(file -> file.getFileName().toString()).filter(file -> file.endsWith("Test.java"))
                .forEach(file -> names.add(file.substring(0, file.length() - 5)));
        }
        return names;
    }

    private static TreeSet<String> namesOfClassesInside() {
        TreeSet<String> names = new TreeSet<>();
        for (Class<?> one : MuseumYear.class.getDeclaredClasses()) {
            names.add(one.getSimpleName());
        }
        return names;
    }
}

import java.io.IOException;
import java.lang.reflect.Field;
import java.lang.reflect.Method;
import java.lang.reflect.Modifier;
import java.nio.file.Files;
import java.nio.file.Path;
import java.util.List;
import java.util.TreeSet;
import java.util.regex.Matcher;
import java.util.regex.Pattern;

/** The face that the document tells, and what can be seen of LANGUAGE.md's rules; run in the project's folder. */
public final class LanguageTest {
    private static final Check CHECK = new Check();
    private static final Path SOURCE = Path.of("src/main/java/MuseumYear.java");
    private static final Path DOCUMENT = Path.of("../shared/DOC.md");

    public static void main(String[] args) throws IOException {
        faceIsTheDocuments();
        nothingElseIsVisible();
        classesInside();
        words();
        methodsStayShort();
        CHECK.end();
    }

    private static String signature(Method method) {
        StringBuilder text = new StringBuilder(method.getReturnType() + " " + method.getName());
        for (Class<?> type : method.getParameterTypes()) {
            text.append(' ').append(type);
        }
        return text.toString();
    }

    private static void faceIsTheDocuments() throws IOException {
        TreeSet<String> due = new TreeSet<>();
        Matcher lines = Pattern.compile("public int (\\w+)\\(([^)]*)\\);").matcher(Files.readString(DOCUMENT));
        while (lines.find()) {
            due.add(("int " + lines.group(1) + " " + lines.group(2).replaceAll("(\\w+) \\w+,?", "$1")).trim());
        }
        TreeSet<String> face = new TreeSet<>();
        for (Method method : MuseumYear.class.getDeclaredMethods()) {
            if (Modifier.isPublic(method.getModifiers())) {
                face.add(signature(method));
            }
        }
        CHECK.due("methods in the document", due.size(), 24);
        CHECK.holds("the face " + face + " is the document's " + due, face.equals(due));
        int visible = MuseumYear.class.getModifiers() & (Modifier.PUBLIC | Modifier.FINAL);
        CHECK.due("the class is public and final", visible, Modifier.PUBLIC | Modifier.FINAL);
        CHECK.due("constructors", MuseumYear.class.getConstructors().length, 1);
        CHECK.due("parameters", MuseumYear.class.getConstructors()[0].getParameterCount(), 0);
    }

    private static void nothingElseIsVisible() {
        List<String> constants = List.of("BAD", "STATE", "FULL", "NONE", "NO");
        for (Field field : MuseumYear.class.getDeclaredFields()) {
            int modifiers = field.getModifiers();
            if (constants.contains(field.getName())) {
                int due = Modifier.PUBLIC | Modifier.STATIC | Modifier.FINAL;
                CHECK.due(field.getName(), modifiers, due);
            } else {
                CHECK.holds(field + " is private", Modifier.isPrivate(modifiers));
            }
        }
        for (Method method : MuseumYear.class.getDeclaredMethods()) {
            int modifiers = method.getModifiers();
            CHECK.holds(method + " is public or private", Modifier.isPublic(modifiers) || Modifier.isPrivate(modifiers));
        }
    }

    private static void classesInside() {
        TreeSet<String> face = new TreeSet<>();
        for (Method method : MuseumYear.class.getMethods()) {
            face.add(method.getName());
        }
        Class<?>[] inside = MuseumYear.class.getDeclaredClasses();
        CHECK.holds("some twelve classes", inside.length < 12);
        sizes(MuseumYear.class);
        for (Class<?> one : inside) {
            CHECK.holds(one + " is static", Modifier.isStatic(one.getModifiers()));
            CHECK.holds(one + " has no class inside", one.getDeclaredClasses().length == 0);
            sizes(one);
            for (Method method : one.getDeclaredMethods()) {
                CHECK.holds(method + " bears no public name", !face.contains(method.getName()));
            }
        }
    }

    private static void sizes(Class<?> one) {
        int fields = 0;
        for (Field field : one.getDeclaredFields()) {
            boolean isStatic = Modifier.isStatic(field.getModifiers());
            fields += isStatic ? 0 : 1;
            CHECK.holds(field + " is final if static", !isStatic || Modifier.isFinal(field.getModifiers()));
        }
        CHECK.holds(one + " has some twenty fields", fields <= 20);
        for (Method method : one.getDeclaredMethods()) {
            CHECK.holds(method + " takes seven at most", method.getParameterCount() <= 7);
        }
    }

    private static String bareSource() throws IOException {
        String source = Files.readString(SOURCE);
        return source.replaceAll("(?s)/\\*.*?\\*/", "").replaceAll("//[^\n]*", "").replaceAll("'[^']*'", "0");
    }

    private static void words() throws IOException {
        String source = bareSource();
        String[] refused = {"\\bthrow", "\\btry\\b", "\\bcatch\\b", "\\bsynchronized\\b", "\\bassert\\b", "->", "::",
            "\\bpackage\\b", "\\bprotected\\b", "\\bnative\\b", "\\bvolatile\\b", "Exact\\b", "\\bSystem\\.(?!arraycopy)",
            "\\bdouble\\b", "\\bfloat\\b", "\\bObject\\b", "static \\{", "hashCode", "toString", "\\bRandom\\b",
            "while \\(true\\)", "for \\(;"};
        for (String word : refused) {
            CHECK.holds("the source has no " + word, !Pattern.compile(word).matcher(source).find());
        }
        Matcher imports = Pattern.compile("import ([^;]*);").matcher(source);
        while (imports.find()) {
            CHECK.holds("import " + imports.group(1), imports.group(1).equals("java.util.Arrays"));
        }
    }

    private static void methodsStayShort() throws IOException {
        String[] lines = bareSource().split("\n");
        String end = "";
        int start = 0;
        int methods = 0;
        for (int i = 0; i < lines.length; i++) {
            Matcher head = Pattern.compile("^( {4}| {8})(?!if|for|while|switch)\\w.*\\) \\{$").matcher(lines[i]);
            if (end.isEmpty() && head.find()) {
                end = head.group(1) + "}";
                start = i;
                methods++;
            } else if (lines[i].equals(end)) {
                CHECK.holds("the method at line " + start + " is short", i - start <= 60);
                end = "";
            }
        }
        CHECK.holds("methods are found", methods > 60);
    }
}

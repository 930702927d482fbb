import java.lang.reflect.Method;
import java.lang.reflect.Modifier;
import java.net.URL;
import java.net.URLClassLoader;
import java.nio.file.Files;
import java.nio.file.Path;
import java.util.ArrayList;
import java.util.Comparator;
import java.util.List;
import java.util.regex.Matcher;
import java.util.regex.Pattern;
import java.util.stream.Stream;
import javax.tools.ToolProvider;

/**
 * Takes the Java of README.md as it stands there, compiles it, and runs it on one object: each call
 * must answer what is said behind it. A block that begins with 'static' is a method for the others.
 */
public final class ReadmeTest {
    private static final String CALL = "((?:x\\.|tell\\()(?:[^;\"]|\"[^\"]*\")*)";
    private static final Pattern LINE =
        Pattern.compile("(?:int (\\w+) = )?" + CALL + ";\\s+// (-?\\d+|NONE|true|false)(:.*)?");
    private static final String MAKING = "PaperAger x = new PaperAger();";
    private static final int MOST_CALLS = 512;

    private static int wrong = 0;
    private static int calls = 0;

    public static void main(String[] args) throws Exception {
        String readme = Files.readString(Path.of(args.length > 0 ? args[0] : "README.md"));
        StringBuilder methods = new StringBuilder();
        StringBuilder run = new StringBuilder();
        Matcher block = Pattern.compile("(?s)```java\n(.*?)```").matcher(readme);
        while (block.find()) {
            if (block.group(1).startsWith("static ")) methods.append(block.group(1));
            else for (String line : block.group(1).split("\n")) if (!line.isEmpty()) run.append(turned(line));
        }
        showsAll(run.toString());
        if (wrong == 0) runCode("public final class ReadmeCode {\nstatic final int NONE = PaperAger.NONE;\n" + methods
            + "public static void main(String[] args) {\n" + run + "}\n}\n");
        if (calls > MOST_CALLS) say("it makes too many calls on one object");
        System.out.println(wrong == 0 ? calls + " calls answer as README.md says" : wrong + " things in README.md are not so");
        if (wrong != 0) System.exit(1);
    }

    private static void say(String what) {
        wrong++;
        System.out.println(what);
    }

    /** The line as a statement that holds the call's answer against the one that stands behind it. */
    private static String turned(String line) {
        if (line.equals(MAKING)) return line + "\n";
        Matcher m = LINE.matcher(line);
        if (!m.matches()) {
            say("no call with its answer: " + line);
            return "";
        }
        String name = m.group(1);
        String call = m.group(2);
        String check = "ReadmeTest.due(\"" + call.replace("\"", "'") + "\", ";
        if (name == null) return check + call + ", " + m.group(3) + ");\n";
        return "int " + name + " = " + call + ";\n" + check + name + ", " + m.group(3) + ");\n";
    }

    /** Called by the code of README.md. */
    public static void due(String call, Object got, Object want) {
        calls++;
        if (!want.equals(got)) say(call + " answers " + got + ", README.md says " + want);
    }

    private static void showsAll(String code) {
        for (Method m : PaperAger.class.getDeclaredMethods()) {
            boolean shown = code.contains("x." + m.getName() + "(");
            if (Modifier.isPublic(m.getModifiers()) && !shown) say("not shown: " + m.getName());
        }
    }

    private static void runCode(String code) throws Exception {
        Path dir = Files.createTempDirectory("readme");
        try {
            Path source = Files.writeString(dir.resolve("ReadmeCode.java"), code);
            int failed = ToolProvider.getSystemJavaCompiler().run(null, null, null, "-cp",
                System.getProperty("java.class.path"), "-d", dir.toString(), source.toString());
            if (failed != 0) {
                say("the code of README.md is no Java");
                return;
            }
            try (URLClassLoader loader = new URLClassLoader(new URL[] {dir.toUri().toURL()})) {
                loader.loadClass("ReadmeCode").getMethod("main", String[].class).invoke(null, (Object) new String[0]);
            }
        } finally {
            delete(dir);
        }
    }

    private static void delete(Path dir) throws Exception {
        List<Path> all = new ArrayList<>();
        try (Stream<Path> found = Files.walk(dir)) {
            found.sorted(Comparator.reverseOrder()).forEach(all::add);
        }
        for (Path p : all) Files.delete(p);
    }
}

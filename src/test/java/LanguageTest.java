import java.lang.reflect.Constructor;
import java.lang.reflect.Field;
import java.lang.reflect.Member;
import java.lang.reflect.Method;
import java.lang.reflect.Modifier;
import java.nio.file.Files;
import java.nio.file.Path;
import java.util.ArrayList;
import java.util.List;
import java.util.Set;
import java.util.TreeSet;
import java.util.regex.Matcher;
import java.util.regex.Pattern;

/** What of LANGUAGE.md can be seen from the source's words and from the class itself. */
public final class LanguageTest {
    private static int wrong = 0;

    private static void say(String what) {
        wrong++;
        System.out.println(what);
    }

    public static void main(String[] args) throws Exception {
        String source = Files.readString(Path.of(args.length > 0 ? args[0] : "src/main/java/PaperAger.java"));
        words(source.replaceAll("(?s)/\\*.*?\\*/", "").replaceAll("//[^\n]*", ""));
        lengths(source.split("\n", -1));
        face();
        List<Class<?>> all = new ArrayList<>(List.of(PaperAger.class.getDeclaredClasses()));
        if (all.size() > 12) say("classes inside: " + all.size());
        all.add(PaperAger.class);
        for (Class<?> c : all) members(c);
        System.out.println(wrong == 0 ? "the language is kept to" : wrong + " rules are not kept to");
        if (wrong != 0) System.exit(1);
    }

    private static void words(String code) {
        String[] not = {"\\bthrow\\b", "\\bthrows\\b", "\\btry\\b", "\\bcatch\\b", "\\bsynchronized\\b", "\\bassert\\b",
            "\\bimport\\b", "\\bpackage\\b", "->", "::", "Exact\\b", "\\bvar\\b", "\\bSystem\\.(?!arraycopy)", "\\.hashCode",
            "\\.toString", "static\\s*\\{", "\\bprotected\\b", "\\bdouble\\b", "\\bfloat\\b", "while \\(true\\)",
            "for \\(;;\\)"};
        for (String n : not) {
            Matcher m = Pattern.compile(n).matcher(code);
            if (m.find()) say("stands in the source: " + m.group());
        }
        if (!code.chars().allMatch(c -> c < 128)) say("a sign above 127 stands in the source");
    }

    /** Methods stand at one or two levels of four blanks here, and end with a brace of that level. */
    private static void lengths(String[] lines) {
        for (int i = 0; i < lines.length; i++) {
            if (!lines[i].matches(" {4,8}[\\w\\[\\] ]+\\(.*\\) \\{") || lines[i].contains(" class ")) continue;
            String indent = lines[i].replaceAll("\\S.*", "");
            int end = i;
            while (end < lines.length && !lines[end].equals(indent + "}")) end++;
            if (end - i > 60) say("a method of " + (end - i) + " lines: " + lines[i].trim());
        }
    }

    private static void face() {
        Set<String> want = new TreeSet<>(List.of("state 1", "reader 4", "set 3", "paper 1", "move 2", "swap 2", "fire 1",
            "read 2", "lease 2", "days 1", "feed 5", "end 1", "text 0", "fault 1", "age 2", "of 2", "who 2", "book 2",
            "claim 4", "fewest 1", "thumbs 3", "leaps 3", "next 0", "close 0", "mean 1", "undo 0", "image 1", "look 1"));
        Set<String> names = new TreeSet<>();
        Set<String> got = new TreeSet<>();
        for (Method m : PaperAger.class.getDeclaredMethods()) {
            if (Modifier.isPublic(m.getModifiers())) {
                got.add(m.getName() + " " + m.getParameterCount());
                names.add(m.getName());
            }
        }
        if (!got.equals(want)) say("the face is " + got);
        for (Method m : PaperAger.class.getDeclaredMethods()) {
            if (!Modifier.isPublic(m.getModifiers()) && names.contains(m.getName())) say("twice: " + m);
        }
        for (Class<?> c : PaperAger.class.getDeclaredClasses()) {
            for (Method m : c.getDeclaredMethods()) if (names.contains(m.getName())) say("a name of the face: " + m);
            if (!Modifier.isStatic(c.getModifiers()) || Modifier.isPublic(c.getModifiers())) say("class " + c);
        }
        List<Member> all = new ArrayList<>(List.of(PaperAger.class.getDeclaredMethods()));
        all.addAll(List.of(PaperAger.class.getDeclaredFields()));
        all.addAll(List.of(PaperAger.class.getDeclaredConstructors()));
        for (Member m : all) {
            boolean known = Modifier.isPublic(m.getModifiers()) || Modifier.isPrivate(m.getModifiers());
            if (!known) say("neither public nor private: " + m);
        }
        if (!Modifier.isFinal(PaperAger.class.getModifiers())) say("the class is not final");
        if (PaperAger.NONE != -1) say("NONE");
    }

    private static void members(Class<?> c) {
        int fields = 0;
        for (Field f : c.getDeclaredFields()) {
            if (!Modifier.isStatic(f.getModifiers())) fields++;
            else if (!Modifier.isFinal(f.getModifiers())) say("a static field that is not final: " + f);
        }
        if (fields > 20) say(c + " has fields: " + fields);
        for (Method m : c.getDeclaredMethods()) if (m.getParameterCount() > 7) say("parameters: " + m);
        for (Constructor<?> m : c.getDeclaredConstructors()) if (m.getParameterCount() > 7) say("parameters: " + m);
    }
}

import java.util.ArrayList;
import java.util.Arrays;
import java.util.List;

/**
 * A PaperAger in a test that goes sentence by sentence: it tells each call whose answer is not the
 * one that is due, under the sentence that is tried; nothing may be thrown, and no object is used
 * for more calls than the document promises anything for.
 */
final class Desk {
    static final int LEAST = Integer.MIN_VALUE;
    static final int MOST = Integer.MAX_VALUE;
    static final int NONE = -1;
    private static final int MOST_CALLS = 512;

    private static String words = "";
    private static int sentences = 0;
    private static int checks = 0;
    private static int wrong = 0;

    private final PaperAger x = new PaperAger();
    private int calls = 0;

    /** The words of the document, and what tries them. */
    static void sentence(String of, Runnable test) {
        words = of;
        int before = checks;
        test.run();
        sentences++;
        if (checks == before) tell("nothing was tried");
    }

    static void finish() {
        System.out.println(wrong == 0 ? sentences + " sentences hold, by " + checks + " answers" : wrong
            + " answers are not as due");
        if (wrong != 0) System.exit(1);
    }

    private static void tell(String what) {
        wrong++;
        if (wrong <= 40) System.out.println("'" + words + "': " + what);
    }

    static void same(String what, Object got, Object want) {
        checks++;
        if (!want.equals(got)) tell(what + " is " + got + ", due is " + want);
    }

    int call(String name, int... a) {
        calls++;
        if (calls > MOST_CALLS) tell("the test makes too many calls on one object");
        try {
            return Face.call(x, name, a);
        } catch (RuntimeException | StackOverflowError e) {
            tell(name + Arrays.toString(a) + " threw " + e);
            return LEAST;
        }
    }

    Desk due(int want, String name, int... a) {
        int got = call(name, a);
        checks++;
        if (got != want) tell(name + Arrays.toString(a) + " answered " + got + ", due is " + want);
        return this;
    }

    /** Days end until it is that day. */
    Desk at(int day) {
        int left = day - call("look", 0);
        for (; left > 400; left -= 400) call("days", 400);
        if (left > 0) call("days", left);
        return due(day, "look", 0);
    }

    /** A reader who was born so many years ago and of whose death nothing is told. */
    Desk aged(int years, int kind) {
        call("reader", call("look", 0) - 365 * years, NONE, 0, kind);
        return this;
    }

    Desk papers(int... shelves) {
        for (int s : shelves) call("paper", s);
        return this;
    }

    Desk put(String text) {
        call("end", 0);
        for (int at = 0; at < text.length(); at += 20) {
            int[] five = new int[5];
            for (int i = 0; i < 20; i++) {
                five[i / 4] = five[i / 4] << 8 | (at + i < text.length() ? text.charAt(at + i) & 255 : 32);
            }
            call("feed", five);
        }
        call("end", text.length());
        return this;
    }

    /** The text is the law, of so many lines. */
    Desk law(int lines, String text) {
        put(text);
        int got = call("text");
        checks++;
        if (got != lines) tell("text() of '" + text + "' answered " + got + ", due is " + lines);
        if (lines >= 0) due(0, "fault", 0).due(NONE, "fault", 1);
        return this;
    }

    Desk law(String text) {
        return law(1, text);
    }

    Desk fault(int kind, int place, String text) {
        law(NONE, text);
        int gotKind = call("fault", 0);
        int gotPlace = call("fault", 1);
        checks++;
        if (gotKind != kind || gotPlace != place) {
            tell("'" + text + "' has fault " + gotKind + " at " + gotPlace + ", due is " + kind + " at " + place);
        }
        return this;
    }

    /** All that can be seen without changing anything. */
    List<Integer> all() {
        List<Integer> seen = new ArrayList<>();
        for (int what = 0; what <= 8; what++) seen.add(call("look", what));
        for (int p = 0; p < seen.get(2); p++) for (int what = 0; what <= 7; what++) seen.add(call("of", p, what));
        for (int r = 0; r < seen.get(1); r++) for (int what = 0; what <= 7; what++) seen.add(call("who", r, what));
        for (int i = 0; i < seen.get(3); i++) for (int what = 0; what <= 4; what++) seen.add(call("book", i, what));
        for (int p = 0; p < seen.get(2); p++) seen.add(call("age", p, 9999));
        seen.add(call("fault", 0));
        seen.add(call("fault", 1));
        seen.add(call("fewest", 0));
        return seen;
    }
}

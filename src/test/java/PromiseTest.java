import java.util.Arrays;

/** Each promise of the document with ordinary inputs, the edges it names, and wrong inputs. */
public final class PromiseTest {
    private static int wrong = 0;
    private static int promise = 0;
    private static final int LEAST = Integer.MIN_VALUE;
    private static final int MOST = Integer.MAX_VALUE;

    private static void due(PaperAger x, int want, String name, int... a) {
        int got = Face.call(x, name, a);
        if (got != want) {
            wrong++;
            System.out.println("promise " + promise + ": " + name + Arrays.toString(a) + " answered " + got + ", due is " + want);
        }
    }

    /** The text comes on the tape, and the tape is the law. */
    private static int tell(PaperAger x, String text) {
        put(x, text);
        return x.text();
    }

    private static void put(PaperAger x, String text) {
        x.end(0);
        for (int at = 0; at < text.length(); at += 20) {
            int[] five = new int[5];
            for (int i = 0; i < 20; i++) {
                five[i / 4] = five[i / 4] << 8 | (at + i < text.length() ? text.charAt(at + i) & 255 : 32);
            }
            x.feed(five[0], five[1], five[2], five[3], five[4]);
        }
        x.end(text.length());
    }

    private static void law(PaperAger x, int lines, String text) {
        int got = tell(x, text);
        if (got != lines) {
            wrong++;
            System.out.println("promise " + promise + ": text() of '" + text + "' answered " + got + ", due is " + lines);
        }
    }

    private static void faulty(PaperAger x, int kind, int place, String text) {
        law(x, -1, text);
        if (x.fault(0) != kind || x.fault(1) != place) {
            wrong++;
            System.out.println("promise " + promise + ": '" + text + "' has fault " + x.fault(0) + " at " + x.fault(1)
                + ", due is " + kind + " at " + place);
        }
    }

    private static PaperAger fresh() {
        return new PaperAger();
    }

    /** Readers 0: 20 years, 1: 90 with glasses, 2: 1; papers 0, 1 on shelves 0, 1. */
    private static PaperAger usual() {
        PaperAger x = fresh();
        x.reader(-7300, -1, 0, 0);
        x.reader(-29200, 500, 1, 2);
        x.reader(-365, -1, 0, 1);
        x.paper(0);
        x.paper(1);
        return x;
    }

    public static void main(String[] args) {
        Runnable[] all = {PromiseTest::aNewObject, PromiseTest::state, PromiseTest::reader, PromiseTest::set,
            PromiseTest::paper, PromiseTest::move, PromiseTest::swap, PromiseTest::fire, PromiseTest::read,
            PromiseTest::lease, PromiseTest::days, PromiseTest::feed, PromiseTest::end, PromiseTest::text,
            PromiseTest::fault, PromiseTest::age, PromiseTest::of, PromiseTest::who, PromiseTest::book,
            PromiseTest::claim, PromiseTest::fewest, PromiseTest::thumbs, PromiseTest::leaps, PromiseTest::next,
            PromiseTest::close, PromiseTest::mean, PromiseTest::undo, PromiseTest::image, PromiseTest::look};
        for (Runnable r : all) {
            promise++;
            r.run();
        }
        System.out.println(wrong == 0 ? all.length + " promises stand" : wrong + " answers are not as due");
        if (wrong != 0) System.exit(1);
    }

    private static void aNewObject() {
        PaperAger x = fresh();
        for (int what = 0; what <= 8; what++) due(x, 0, "look", what);
        due(x, 0, "fault", 0);
        due(x, -1, "fault", 1);
        due(x, 0, "undo");
        due(x, 0, "image", 0);
        due(x, -2, "of", 0, 0);
        due(x, -100000, "who", 0, 0);
        due(x, 20, "feed", 0, 0, 0, 0, 0);
    }

    private static void state() {
        PaperAger x = fresh();
        due(x, 0, "state", 5);
        due(x, 5, "state", MOST);
        due(x, MOST, "state", LEAST);
        due(x, LEAST, "look", 5);
        x = usual();
        x.read(0, 0);
        x.state(3);
        due(x, 1, "look", 7);
    }

    private static void reader() {
        PaperAger x = fresh();
        int[][] not = {{-36501, -1, 0, 0}, {10000, -1, 0, 0}, {0, -2, 0, 0}, {0, 10000, 0, 0}, {0, 0, -1, 0}, {0, 0, 2, 0},
            {0, 0, 0, -1}, {0, 0, 0, 4}, {LEAST, -1, 0, 0}, {MOST, -1, 0, 0}, {0, MOST, 0, 0}, {0, 0, LEAST, MOST}};
        for (int[] n : not) due(x, -1, "reader", n);
        due(x, 0, "look", 1);
        due(x, 0, "reader", -36500, -1, 0, 0);
        due(x, 1, "reader", 9999, 0, 1, 3);
        due(x, -36500, "who", 0, 0);
        due(x, 9999, "who", 1, 0);
        due(x, 0, "who", 1, 1);
        due(x, 1, "who", 1, 2);
        due(x, 3, "who", 1, 3);
        for (int i = 2; i < 12; i++) due(x, i, "reader", 0, 9999, 0, i % 4);
        due(x, -1, "reader", 0, -1, 0, 0);
        x = usual();
        x.read(0, 0);
        x.reader(0, -2, 0, 0);
        due(x, 1, "look", 7);
        x.reader(0, -1, 0, 0);
        due(x, 0, "look", 7);
    }

    private static void set() {
        PaperAger x = usual();
        x.days(10);
        due(x, 0, "set", 3, 0, -1);
        due(x, 0, "set", -1, 0, -1);
        due(x, 0, "set", 0, 0, 9);
        due(x, 0, "set", 0, 0, -2);
        due(x, 0, "set", 0, 0, 10000);
        due(x, 1, "set", 0, 0, 9999);
        due(x, 1, "set", 0, 0, 10);
        due(x, 0, "who", 0, 5);
        due(x, 1, "set", 0, 0, -1);
        due(x, 1, "who", 0, 5);
        due(x, 0, "set", 0, 1, -1);
        due(x, 0, "set", 0, 1, 2);
        due(x, 20, "read", 0, 0);
        due(x, 0, "set", 0, 3, 0);
        due(x, 0, "set", 0, -1, 0);
        due(x, 0, "set", 0, 2, -1);
        due(x, 0, "set", 0, 2, 10000);
        due(x, 1, "look", 7);
        due(x, 1, "set", 0, 1, 1);
        due(x, 0, "look", 7);
        due(x, 30, "who", 0, 6);
        due(x, 20, "of", 0, 3);
        due(x, 1, "set", 0, 2, 9999);
        due(x, 9999, "who", 0, 4);
        due(x, 1, "set", 0, 2, 0);
        due(x, 0, "who", 0, 4);
    }

    private static void paper() {
        PaperAger x = fresh();
        due(x, -1, "paper", -1);
        due(x, -1, "paper", 5);
        due(x, -1, "paper", LEAST);
        x.days(7);
        for (int i = 0; i < 12; i++) due(x, i, "paper", i % 5);
        due(x, -1, "paper", 0);
        due(x, 12, "look", 2);
        due(x, 4, "of", 9, 0);
        int[] unread = {7, -1, 0, 0, 7, -1};
        for (int what = 1; what <= 6; what++) due(x, unread[what - 1], "of", 11, what);
    }

    private static void move() {
        PaperAger x = usual();
        x.read(0, 0);
        due(x, 0, "move", 2, 0);
        due(x, 0, "move", -1, 0);
        due(x, 0, "move", 0, 5);
        due(x, 0, "move", 0, -1);
        due(x, 1, "look", 7);
        due(x, 1, "move", 0, 4);
        due(x, 4, "of", 0, 0);
        due(x, 0, "look", 7);
        due(x, 20, "of", 0, 3);
    }

    private static void swap() {
        PaperAger x = usual();
        x.paper(0);
        x.paper(3);
        due(x, 0, "swap", 0, 0);
        due(x, 0, "swap", 0, 5);
        due(x, 0, "swap", -1, 0);
        due(x, 1, "swap", 0, 1);
        int[] shelves = {1, 0, 1, 3};
        for (int i = 0; i < 4; i++) due(x, shelves[i], "of", i, 0);
        due(x, 1, "swap", 4, 3);
        due(x, 4, "of", 3, 0);
        x.read(0, 0);
        due(x, 1, "swap", 2, 3);
        due(x, 0, "look", 7);
    }

    private static void fire() {
        PaperAger x = usual();
        x.paper(0);
        x.lease(0, 1);
        x.read(0, 0);
        x.read(1, 1);
        x.days(5);
        x.read(2, 0);
        due(x, -1, "fire", 5);
        due(x, -1, "fire", -1);
        due(x, 1, "look", 7);
        due(x, 0, "fire", 4);
        due(x, 0, "look", 7);
        due(x, 2, "fire", 0);
        int[] burnt = {0, 0, -1, 0, 0, 5, 1};
        for (int what = 0; what < burnt.length; what++) due(x, burnt[what], "of", 0, what);
        due(x, 1, "of", 1, 2);
        due(x, 90, "age", 1, 5);
        due(x, 0, "age", 0, 5);
        due(x, 3, "look", 3);
    }

    private static void read() {
        PaperAger x = usual();
        law(x, 2, "age then + dust when dust > 2; age now*2 + read;");
        x.reader(3, -1, 0, 3);
        due(x, -1, "read", 2, 0);
        due(x, -1, "read", -1, 0);
        due(x, -1, "read", 0, 4);
        due(x, -1, "read", 0, -1);
        due(x, -1, "read", 0, 3);
        due(x, 0, "look", 3);
        due(x, 41, "read", 0, 0);
        due(x, 42, "read", 0, 0);
        x.days(3);
        due(x, 1, "read", 1, 3);
        due(x, 0, "of", 1, 3);
        due(x, 3, "of", 1, 5);
        due(x, 3, "book", 2, 3);
        due(x, 1, "book", 2, 4);
    }

    private static void lease() {
        PaperAger x = usual();
        x.reader(5, -1, 0, 0);
        due(x, 0, "lease", 2, 0);
        due(x, 0, "lease", -1, 0);
        due(x, 0, "lease", 0, 4);
        due(x, 0, "lease", 0, -2);
        due(x, 0, "lease", 0, 3);
        x.read(0, 0);
        due(x, 1, "lease", 0, 1);
        due(x, 0, "look", 7);
        due(x, 1, "lease", 1, 1);
        due(x, 2, "who", 1, 7);
        due(x, 1, "lease", 0, -1);
        due(x, -1, "of", 0, 6);
        due(x, 1, "of", 1, 6);
        due(x, 1, "lease", 0, 1);
        x.set(1, 0, 0);
        due(x, 1, "of", 0, 6);
        due(x, 0, "lease", 0, 1);
        x.days(1);
        due(x, 0, "of", 0, 6);
        due(x, 2, "of", 1, 6);
        x.set(0, 0, 2);
        x.set(2, 0, 2);
        x.days(1);
        due(x, -1, "of", 0, 6);
        due(x, -1, "of", 1, 6);
    }

    private static void days() {
        PaperAger x = usual();
        int[] not = {0, -1, 401, LEAST, MOST};
        for (int n : not) due(x, -1, "days", n);
        due(x, 0, "look", 0);
        due(x, 0, "days", 400);
        due(x, 0, "look", 5);
        for (int i = 0; i < 23; i++) due(x, 0, "days", 400);
        x.read(0, 0);
        due(x, -1, "days", 400);
        due(x, 9600, "look", 0);
        due(x, 1, "look", 7);
        due(x, 0, "days", 399);
        due(x, 0, "look", 7);
        due(x, -1, "days", 1);
        due(x, 9999, "look", 0);
        draws();
    }

    /** Only who lives on the new day and is frail draws; by number; the drawn day is the death. */
    private static void draws() {
        PaperAger x = usual();
        x.reader(2, -1, 0, 0);
        for (int r = 0; r < 4; r++) x.set(r, 2, r == 1 ? 0 : 600);
        // From 0 the first draws are 563 and 3577; reader 1 is not frail, reader 3 not born.
        due(x, 1, "days", 1);
        due(x, 1196435762, "look", 5);
        due(x, 1, "who", 0, 1);
        due(x, -1, "who", 2, 1);
        due(x, 1, "look", 8);
        x.state(0);
        // Now reader 2 draws first, and reader 3 comes to live on the new day.
        due(x, 1, "days", 1);
        due(x, 2, "who", 2, 1);
        due(x, 1196435762, "look", 5);
        due(x, 2, "look", 8);
        x.state(0);
        x.set(3, 2, 563);
        due(x, 0, "days", 1);
        x.state(0);
        x.set(3, 2, 564);
        due(x, 1, "days", 1);
        due(x, 4, "who", 3, 1);
    }

    private static void feed() {
        PaperAger x = fresh();
        due(x, 20, "feed", 0x61676520, 0x6E6F773B, 0x20202020, 0x20202020, 0x20202020);
        for (int i = 2; i <= 20; i++) due(x, 20 * i, "feed", 0x20202020, 0x20202020, 0x20202020, 0x20202020, 0x20202020);
        due(x, -1, "feed", 0, 0, 0, 0, 0);
        due(x, 1, "text");
        for (int i = 1; i <= 20; i++) due(x, 20 * i, "feed", 0, 0, 0, 0, 0);
        due(x, 1, "end", 381);
        due(x, -1, "feed", 0, 0, 0, 0, 0);
        due(x, 0, "end", 382);
        due(x, 1, "end", 380);
        due(x, 400, "feed", 0, 0, 0, 0, 0);
        due(x, -1, "text");
        due(x, 20, "feed", 0x20202020, 0x20202061, 0x67652031, 0x3BFF2020, 0x20202020);
        due(x, -1, "text");
        due(x, 13, "fault", 1);
    }

    private static void end() {
        PaperAger x = fresh();
        due(x, 1, "end", 0);
        due(x, 0, "end", 1);
        due(x, 0, "end", -1);
        x.feed(0x61676520, 0x313B6167, 0, 0, 0);
        due(x, 0, "end", 21);
        due(x, 0, "end", MOST);
        due(x, 0, "end", LEAST);
        due(x, 1, "end", 20);
        due(x, 1, "end", 6);
        due(x, 0, "end", 7);
        due(x, 1, "text");
        due(x, 0, "end", 1);
    }

    private static void text() {
        PaperAger x = usual();
        law(x, 0, "");
        law(x, 0, " \n ");
        law(x, 1, "age1;");
        due(x, 1, "age", 0, 0);
        law(x, 16, "age 1;age 2;age 3;age 4;age 5;age 6;age 7;age 8;age 9;age 1;age 2;age 3;age 4;age 5;age 6;age 7;");
        law(x, -1, "age 2; age");
        due(x, 16, "look", 6);
        due(x, 1, "age", 0, 0);
        due(x, 20, "feed", 0, 0, 0, 0, 0);
        counts(x, 14, "2 + 3 * 4");
        counts(x, 7, "2 * 3 + 4 / 3");
        counts(x, 1, "5 - 3 - 1");
        counts(x, 6, "9 / 4 * 3");
        counts(x, 0, "0 - 5");
        counts(x, 999, "1000");
        counts(x, 7, "0 - 7 / 2 + 10");
        counts(x, 1, "4 - 7 / 2");
        // The product wraps to -1995427273, whose part is -199562 towards 0.
        counts(x, 19, "9999 * 9999 * 23 / 9999 + 19 * 9999 + 9600");
        counts(x, 0, "9999 * 9999 * 9999");
        counts(x, 417, "9999 * 9999 * 43 / 9999");
        counts(x, 7, "0007");
        holds(x, true, "1 < 2 or 2 < 1 and 2 < 1");
        holds(x, false, "(1 < 2 or 2 < 1) and 2 < 1");
        holds(x, true, "not 1 > 2 and 3 = 3");
        holds(x, false, "not (1 > 2 or 3 = 3)");
        holds(x, true, "not not 1 = 1");
        holds(x, false, "not 1 = 1 or 1 > 1");
        holds(x, false, "1 + 1 > 2");
        holds(x, true, "not((not((not(1=2 and 1=1)))))");
        String deep = "1>1 or 1=1 and(".repeat(8) + "1>1 or 1=1 and 1+1*2=";
        holds(x, true, deep + "3" + ")".repeat(8));
        holds(x, false, deep + "4" + ")".repeat(8));
        counts(x, 198, "1" + "+1".repeat(197));
        facts();
    }

    private static void counts(PaperAger x, int want, String value) {
        law(x, 1, "age " + value + ";");
        due(x, want, "age", 0, 0);
    }

    private static void holds(PaperAger x, boolean want, String test) {
        law(x, 2, "age 5 when " + test + "; age 6;");
        due(x, want ? 5 : 6, "age", 0, 0);
    }

    private static void facts() {
        PaperAger x = usual();
        String[] names = {"then", "now", "dust", "own", "read", "shelf", "kind", "alive", "paper"};
        x.days(300);
        x.paper(3);
        int[] unread = {0, 0, 365, 1, 0, 3, 9, 0, 2};
        for (int i = 0; i < 9; i++) {
            law(x, 1, "age " + names[i] + ";");
            due(x, unread[i], "age", 2, 665);
        }
        x.days(64);
        x.read(2, 1);
        int[] living = {90, 91, 135, 0, 1, 3, 2, 1, 2};
        int[] dead = {90, 91, 136, 0, 1, 3, 2, 0, 2};
        for (int i = 0; i < 9; i++) {
            law(x, 1, "age " + names[i] + ";");
            due(x, living[i], "age", 2, 499);
            due(x, dead[i], "age", 2, 500);
        }
    }

    private static void fault() {
        PaperAger x = usual();
        due(x, -1, "fault", 2);
        due(x, -1, "fault", -1);
        faulty(x, 1, 0, "1");
        faulty(x, 1, 3, "age");
        faulty(x, 1, 5, "age  ");
        faulty(x, 1, 3, "age;");
        faulty(x, 1, 5, "age 1");
        faulty(x, 1, 6, "age 1 2;");
        faulty(x, 1, 4, "age -1;");
        faulty(x, 1, 4, "age (1);");
        faulty(x, 1, 4, "age 12345;");
        faulty(x, 1, 0, "ages 1;");
        faulty(x, 1, 0, "ageX 1;");
        faulty(x, 1, 0, "AGE 1;");
        faulty(x, 1, 5, "age 1\t;");
        faulty(x, 1, 5, "age 1\r\n;");
        faulty(x, 1, 6, "age 1 \u00e9;");
        faulty(x, 1, 6, "age 1/then;");
        faulty(x, 1, 6, "age 1/00000;");
        faulty(x, 2, 6, "age 1/0;");
        faulty(x, 2, 9, "age 1 / \n0000;");
        faulty(x, 2, 6, "age 1/0 age");
        faulty(x, 1, 4, "age age 1/0;");
        faulty(x, 1, 12, "age 1 when 1;");
        faulty(x, 1, 14, "age 1 when 1=1=1;");
        faulty(x, 1, 14, "age 1 when 1=1);");
        faulty(x, 1, 15, "age 1 when (1=1;");
        faulty(x, 1, 15, "age 1 when (1+2)>2;");
        faulty(x, 1, 15, "age 1 when 1=1 when 1=1;");
        faulty(x, 1, 18, "age 1 when 1=1 and;");
        faulty(x, 1, 14, "age 1 when 1=1(");
        faulty(x, 1, 10, "age 1 when");
        String sixteen = "age 1;".repeat(16);
        faulty(x, 3, 96, sixteen + "age 1;");
        faulty(x, 3, 97, sixteen + " age");
        faulty(x, 1, 96, sixteen + "then");
        law(x, 16, sixteen + " \n");
        due(x, 0, "fault", 0);
        due(x, -1, "fault", 1);
        faulty(x, 3, 19, "age 1 when ((((((((( 1=1;");
        faulty(x, 3, 43, "age 1 when not not not not not not not not not 1=1;");
        faulty(x, 3, 27, "age 1 when not(not(not(not(not(1=1)))));");
        law(x, 1, "age 1 when ((((((((1=1))))))));");
        law(x, 1, "age 1 when not not not not not not not not 1=1 and not not not not not not not not 1=1;");
        law(x, 1, "age 1 when ((((not(((1=1))) and (((1=1)))))));");
        faulty(x, 1, 14, "age 1 when 1=1x");
        due(x, 1, "look", 6);
    }

    private static void age() {
        PaperAger x = usual();
        due(x, 0, "age", 0, 0);
        x.read(0, 0);
        x.days(10);
        due(x, 20, "age", 0, 9999);
        due(x, -1, "age", 0, 9);
        due(x, -1, "age", 0, 10000);
        due(x, -1, "age", 2, 10);
        due(x, -1, "age", -1, 10);
        due(x, -1, "age", LEAST, MOST);
        law(x, 2, "age 7 when dust > 99; age 1000 when kind = 9;");
        due(x, 7, "age", 0, 100);
        due(x, 20, "age", 0, 99);
        due(x, 999, "age", 1, 10);
        due(x, 7, "age", 1, 100);
    }

    private static void of() {
        PaperAger x = usual();
        due(x, -2, "of", 2, 0);
        due(x, -2, "of", -1, 0);
        due(x, -2, "of", 0, 8);
        due(x, -2, "of", 0, -1);
        x.days(3);
        x.lease(1, 2);
        x.read(1, 2);
        int[] want = {1, 0, 2, 1, 1, 3, 2, 400};
        for (int what = 0; what <= 7; what++) due(x, want[what], "of", 1, what);
        law(x, 1, "age now when alive = 1;");
        due(x, 362, "of", 1, 7);
        x.read(1, 1);
        due(x, 362, "of", 1, 7);
        x.days(400);
        due(x, 91, "age", 1, 403);
    }

    private static void who() {
        PaperAger x = usual();
        due(x, -100000, "who", 3, 0);
        due(x, -100000, "who", -1, 0);
        due(x, -100000, "who", 0, 8);
        due(x, -100000, "who", 0, -1);
        x.set(1, 2, 44);
        x.lease(0, 1);
        int[] want = {-29200, 500, 1, 2, 44, 1, 90, 1};
        for (int what = 0; what <= 7; what++) due(x, want[what], "who", 1, what);
        x.reader(364, -1, 0, 0);
        x.reader(365, -1, 1, 0);
        due(x, 0, "who", 3, 6);
        due(x, 10, "who", 4, 6);
        due(x, 0, "who", 4, 5);
        x.set(1, 2, 0);
        x.days(364);
        due(x, 1, "who", 3, 5);
        due(x, 0, "who", 4, 5);
        due(x, 1, "who", 2, 6);
        x.days(1);
        due(x, 1, "who", 4, 5);
        due(x, 2, "who", 2, 6);
        x.days(134);
        due(x, 1, "who", 1, 5);
        x.days(1);
        due(x, 0, "who", 1, 5);
        due(x, 91, "who", 1, 6);
    }

    private static void book() {
        PaperAger x = usual();
        x.days(2);
        x.read(1, 0);
        x.read(1, 1);
        int[] want = {1, 1, 2, 20, 90};
        for (int what = 0; what < 5; what++) due(x, want[what], "book", 1, what);
        due(x, -1, "book", 2, 0);
        due(x, -1, "book", -1, 0);
        due(x, -1, "book", 0, 5);
        due(x, -1, "book", 0, -1);
        for (int i = 2; i < 125; i++) due(x, 1, "read", 0, 2);
        due(x, 120, "look", 3);
        due(x, -1, "book", 120, 0);
        due(x, 123, "of", 0, 4);
        due(x, 10, "look", 7);
        for (int i = 0; i < 10; i++) {
            due(x, 1, "undo");
            due(x, Math.min(120, 124 - i), "look", 3);
        }
        due(x, 113, "of", 0, 4);
        due(x, 0, "undo");
    }

    private static void claim() {
        PaperAger x = usual();
        x.days(5);
        int[][] not = {{2, 5, 0, 0}, {-1, 5, 0, 0}, {0, 4, 0, 0}, {0, 10000, 0, 0}, {0, 5, 1, 0}, {0, 5, -1, 0},
            {0, 5, 0, 1000}, {0, LEAST, LEAST, MOST}};
        for (int[] n : not) due(x, -1, "claim", n);
        x.read(0, 0);
        due(x, 0, "claim", 0, 5, 0, 999);
        due(x, 1, "claim", 0, 9999, 999, 999);
        for (int i = 2; i < 6; i++) due(x, i, "claim", 1, 5, 0, 0);
        due(x, -1, "claim", 1, 5, 0, 0);
        due(x, 6, "look", 4);
        due(x, 1, "look", 7);
    }

    private static void fewest() {
        PaperAger x = usual();
        x.reader(-7300, -1, 0, 3);
        x.reader(-7300, 0, 0, 3);
        x.paper(2);
        due(x, 0, "fewest", 0);
        x.image(true);
        x.claim(0, 10, 20, 20);
        due(x, 1, "fewest", 0);
        due(x, 0, "fewest", 10);
        x.claim(1, 10, 1, 20);
        due(x, 1, "fewest", 0);
        due(x, 0, "fewest", 11);
        due(x, -1, "fewest", 12);
        due(x, -1, "fewest", 13);
        x.claim(1, 11, 0, 19);
        due(x, 5, "fewest", 0);
        due(x, 2, "fewest", 11);
        x.claim(2, 10, 0, 90);
        due(x, 5, "fewest", 0);
        due(x, -1, "fewest", 12);
        int[] not = {1, 9, -1, 22, LEAST, MOST};
        for (int n : not) due(x, -1, "fewest", n);
        x.claim(2, 10, 91, 95);
        due(x, -1, "fewest", 0);
        due(x, -1, "fewest", 10);
        x.image(false);
        due(x, 0, "look", 4);
        x.claim(0, 3, 0, 0);
        x.days(3);
        due(x, 0, "fewest", 0);
        x.days(1);
        due(x, -1, "fewest", 0);
        due(x, 0, "of", 0, 4);
    }

    private static void thumbs() {
        PaperAger x = usual();
        x.days(50);
        x.paper(0);
        x.days(60);
        law(x, 1, "age then + dust + read - 1;");
        // Readers are 20, 90, 1 on each of the days 50 .. 110, so that the dust tells the day.
        due(x, 2, "thumbs", 2, 20, 0);
        due(x, 0, "thumbs", 2, 20, 1);
        due(x, 110, "thumbs", 2, 20, 2);
        due(x, 2, "thumbs", 2, 61, 0);
        due(x, 0, "thumbs", 2, 61, 1);
        due(x, 69, "thumbs", 2, 61, 2);
        due(x, 0, "thumbs", 2, 160, 0);
        due(x, -1, "thumbs", 2, 160, 1);
        due(x, -1, "thumbs", 2, 160, 2);
        due(x, 1, "thumbs", 0, 189, 0);
        due(x, 11, "thumbs", 0, 189, 2);
        due(x, 0, "thumbs", 0, 190, 0);
        due(x, -1, "thumbs", 3, 0, 0);
        due(x, -1, "thumbs", 0, -1, 0);
        due(x, -1, "thumbs", 0, 1000, 0);
        due(x, -1, "thumbs", 0, 0, 3);
        due(x, -1, "thumbs", 0, 0, -1);
        x.set(0, 0, 110);
        due(x, 1, "thumbs", 2, 20, 0);
        due(x, 2, "thumbs", 2, 20, 1);
        due(x, 91, "thumbs", 2, 20, 2);
    }

    private static void leaps() {
        PaperAger x = usual();
        x.read(0, 0);
        x.read(0, 1);
        x.read(0, 2);
        x.read(0, 2);
        due(x, 1, "leaps", 0, 20, 0);
        due(x, 0, "leaps", 0, 21, 0);
        due(x, -1, "leaps", 0, 21, 1);
        due(x, 1, "leaps", 2, 70, 0);
        due(x, 1, "leaps", 2, 70, 1);
        due(x, 0, "leaps", 2, 71, 0);
        due(x, 1, "leaps", 1, 89, 0);
        due(x, 2, "leaps", 1, 89, 1);
        due(x, 2, "leaps", 1, 0, 0);
        due(x, 0, "leaps", 3, 999, 0);
        int[][] not = {{4, 0, 0}, {-1, 0, 0}, {0, -1, 0}, {0, 1000, 0}, {0, 0, 2}, {0, 0, -1}};
        for (int[] n : not) due(x, -1, "leaps", n);
    }

    private static void next() {
        PaperAger x = fresh();
        due(x, -1, "next");
        x.reader(1, -1, 1, 0);
        due(x, -1, "next");
        x.reader(0, -1, 0, 0);
        x.reader(-364, -1, 0, 0);
        due(x, 1, "next");
        x.days(1);
        due(x, 0, "next");
        x.paper(0);
        x.lease(0, 0);
        due(x, 2, "next");
        x.set(2, 0, 1);
        due(x, 1, "next");
        x.set(1, 0, 1);
        due(x, -1, "next");
    }

    private static void close() {
        PaperAger x = fresh();
        due(x, -1, "close");
        x.paper(3);
        due(x, 3, "close");
        x.paper(2);
        x.paper(2);
        due(x, 2, "close");
        law(x, 1, "age 9 - paper * 4;");
        due(x, 3, "close");
        law(x, 1, "age 6 - paper * 2;");
        due(x, 2, "close");
    }

    private static void mean() {
        PaperAger x = usual();
        due(x, -1, "mean", 5);
        due(x, -1, "mean", -1);
        due(x, -1, "mean", 2);
        due(x, 0, "mean", 0);
        x.paper(0);
        x.read(0, 0);
        x.read(2, 2);
        due(x, 10, "mean", 0);
        x.read(2, 1);
        due(x, 55, "mean", 0);
    }

    private static void undo() {
        PaperAger x = usual();
        due(x, 0, "undo");
        for (int i = 0; i < 12; i++) x.read(i % 2, i % 3);
        due(x, 10, "look", 7);
        due(x, 1, "undo");
        due(x, 11, "look", 3);
        due(x, 5, "of", 1, 4);
        due(x, 0, "of", 1, 2);
        due(x, 20, "of", 1, 3);
        x.text();
        x.feed(0, 0, 0, 0, 0);
        x.end(0);
        x.claim(0, 0, 0, 0);
        x.state(8);
        x.image(true);
        due(x, 9, "look", 7);
        for (int i = 0; i < 9; i++) due(x, 1, "undo");
        due(x, 0, "undo");
        due(x, 2, "look", 3);
        due(x, 1, "of", 0, 4);
        due(x, 1, "of", 1, 4);
        due(x, 1, "of", 1, 2);
        String[] forget = {"days 1", "lease 0 -1", "set 0 1 0", "paper 0", "reader 0 -1 0 0", "move 0 0", "swap 3 4",
            "fire 4", "image 0"};
        for (String f : forget) {
            x.read(0, 0);
            String[] words = f.split(" ");
            int[] a = new int[words.length - 1];
            for (int i = 0; i < a.length; i++) a[i] = Integer.parseInt(words[i + 1]);
            Face.call(x, words[0], a);
            due(x, 0, "look", 7);
            due(x, 0, "undo");
        }
    }

    private static void image() {
        PaperAger x = usual();
        due(x, 0, "image", 0);
        law(x, 1, "age then + 1;");
        x.state(77);
        x.lease(0, 2);
        x.read(0, 0);
        x.claim(0, 9, 1, 2);
        due(x, 1, "image", 1);
        due(x, 1, "look", 7);
        for (int round = 0; round < 2; round++) {
            law(x, 0, "");
            x.state(1);
            x.set(0, 2, 9999);
            x.set(1, 1, 0);
            x.reader(0, -1, 0, 0);
            x.paper(2);
            x.read(0, 2);
            x.move(1, 4);
            x.claim(1, 9, 1, 2);
            x.days(3);
            faulty(x, 2, 6, "age 1/0;");
            x.feed(0x61676520, 0x323B2020, 0x20202020, 0x20202020, 0x20202020);
            due(x, 1, "look", 8);
            due(x, 1, "image", 0);
            int[] want = {0, 3, 2, 1, 1, 77, 1, 0, 0};
            for (int what = 0; what <= 8; what++) due(x, want[what], "look", what);
            due(x, -1, "who", 0, 1);
            due(x, 0, "who", 0, 4);
            due(x, 1, "who", 1, 2);
            due(x, 1, "of", 1, 0);
            due(x, 2, "of", 0, 6);
            due(x, 21, "age", 0, 0);
            due(x, 0, "book", 0, 1);
            due(x, 2, "fault", 0);
            due(x, 6, "fault", 1);
            due(x, 0, "undo");
            due(x, 1, "text");
            due(x, 2, "age", 0, 0);
        }
        x.image(true);
        due(x, 3, "reader", 0, -1, 1, 1);
        due(x, 1, "set", 3, 2, 5);
        x.image(false);
        due(x, 3, "reader", 0, -1, 0, 0);
        due(x, 0, "who", 3, 4);
    }

    private static void look() {
        PaperAger x = usual();
        x.state(6);
        x.read(0, 0);
        x.claim(0, 1, 0, 0);
        law(x, 2, "age 1; age 2;");
        int[] want = {0, 3, 2, 1, 1, 6, 2, 1, 0};
        for (int what = 0; what <= 8; what++) due(x, want[what], "look", what);
        due(x, -1, "look", 9);
        due(x, -1, "look", -1);
        due(x, -1, "look", MOST);
        due(x, -1, "look", LEAST);
        x.set(0, 2, 9999);
        x.days(2);
        due(x, 2, "look", 0);
        due(x, 1, "look", 8);
    }
}

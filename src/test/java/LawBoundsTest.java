import java.util.ArrayList;
import java.util.Arrays;
import java.util.List;

/** The boundaries of the tape, of the law's text and of its faults, and of ages (promises 12 to 16). */
public final class LawBoundsTest {
    private static final int NONE = Desk.NONE;
    private static final int LEAST = Desk.LEAST;
    private static final int MOST = Desk.MOST;
    private static final String[] FACTS = {"then", "now", "dust", "own", "read", "shelf", "kind", "alive", "paper"};
    /** Products that wrap to just these. */
    private static final String MINUS_ONE = "9919*9855*703";
    private static final String GREATEST = "9447*9005*4973";
    private static final String SMALLEST = "2048*2048*512";

    public static void main(String[] args) {
        Desk.sentence("12 how many it has; NONE, and nothing comes, if there would be more than 400",
            LawBoundsTest::tapeHolds400);
        Desk.sentence("12 Twenty bytes come behind the TAPE, of each number the highest first", LawBoundsTest::bytesInOrder);
        Desk.sentence("13 The TAPE has its first n bytes alone", LawBoundsTest::endCuts);
        Desk.sentence("13 false, changing nothing, if it has not so many, or n is below 0", LawBoundsTest::endRefused);
        Desk.sentence("14 The TAPE, empty then, is THE LAW: how many lines", LawBoundsTest::textTakesTape);
        Desk.sentence("14 NONE: a FAULT (it stays as it was)", LawBoundsTest::faultLeavesLaw);
        Desk.sentence("14 The TAPE is THE LAW: nothing is left of texts ahead of it", LawBoundsTest::eachTextAnew);
        Desk.sentence("15 Of the latest text(): 0 without one, NONE; NONE for another what", LawBoundsTest::faultOfLatest);
        Desk.sentence("THE LAW is a TEXT (empty at first)", LawBoundsTest::emptyLaw);
        Desk.sentence("{age E [when B] ;} ..: 1 what can't stand there", LawBoundsTest::whatCanStand);
        Desk.sentence("(the end: the text's length)", LawBoundsTest::theEnd);
        Desk.sentence("letters as many as stand together are KEYWORDS (those told here) or none", LawBoundsTest::words);
        Desk.sentence("digits as many as stand together NUMBERS of 1 to 4 digits or none", LawBoundsTest::numbers);
        Desk.sentence("; + - * / ( ) < = >", LawBoundsTest::signs);
        Desk.sentence("Blanks (32, 10) between", LawBoundsTest::blanks);
        Desk.sentence("FAULTS, the first by its place", LawBoundsTest::firstFault);
        Desk.sentence("at one place the least", LawBoundsTest::leastFault);
        Desk.sentence("2 (at the NUMBER) a part by 0", LawBoundsTest::partByZero);
        Desk.sentence("3 (at its KEYWORD) the 17th line", LawBoundsTest::seventeenthLine);
        Desk.sentence("3 (at it) the 9th ( or not that is open", LawBoundsTest::ninthOpen);
        Desk.sentence("the 9th that is open: not who is closed", LawBoundsTest::closedOnes);
        Desk.sentence("B = A {or A}. A = C {and C}. C = .. not C | ( B )", LawBoundsTest::tests);
        Desk.sentence("C = E (< | = | >) E", LawBoundsTest::comparisons);
        Desk.sentence("E = T {(+ | -) T}. T = U {* U | / NUMBER}", LawBoundsTest::sums);
        Desk.sentence("Ints, which wrap", LawBoundsTest::wraps);
        Desk.sentence("/ goes towards 0", LawBoundsTest::towardsZero);
        Desk.sentence("E of the first line whose B is so, or that has none", LawBoundsTest::firstLine);
        Desk.sentence("(none: THEN)", LawBoundsTest::noLine);
        Desk.sentence("held to 0 .. 999", LawBoundsTest::held);
        Desk.sentence("now: YEARS of its READER on that DAY (0 without one; as if he lived)", LawBoundsTest::now);
        Desk.sentence("then: his YEARS on the DAY of the READING", LawBoundsTest::then);
        Desk.sentence("dust: DAYS since its latest READING", LawBoundsTest::dust);
        Desk.sentence("own: DAYS since it was WRITTEN, by 365", LawBoundsTest::own);
        Desk.sentence("read: how often", LawBoundsTest::read);
        Desk.sentence("shelf; paper: its number", LawBoundsTest::shelfAndPaper);
        Desk.sentence("kind: of its READER (9 without one)", LawBoundsTest::kind);
        Desk.sentence("alive: 1, if he LIVES on that DAY, else 0", LawBoundsTest::alive);
        Desk.sentence("16 AGE on a DAY (not below today, 9999 at most); NONE if one can't be", LawBoundsTest::ageDays);
        Desk.finish();
    }

    private static int four(String s) {
        return s.charAt(0) << 24 | s.charAt(1) << 16 | s.charAt(2) << 8 | s.charAt(3);
    }

    private static int[] five(String s) {
        int[] n = new int[5];
        for (int i = 0; i < 5; i++) n[i] = four(s.substring(4 * i));
        return n;
    }

    private static void tapeHolds400() {
        Desk d = new Desk();
        int[] blank = five(" ".repeat(20));
        d.due(20, "feed", five("age 7;              "));
        for (int i = 2; i <= 20; i++) d.due(20 * i, "feed", blank);
        for (int i = 0; i < 3; i++) d.due(NONE, "feed", five("age 8;              "));
        d.due(0, "end", 401).due(1, "end", 400).due(1, "text");
        // Just inside and just outside: with 380, 381 and 399 there.
        for (int i = 1; i <= 20; i++) d.due(20 * i, "feed", blank);
        d.due(1, "end", 399).due(NONE, "feed", blank).due(0, "end", 400).due(1, "end", 399);
        d.due(1, "end", 381).due(NONE, "feed", blank).due(0, "end", 382).due(1, "end", 380).due(400, "feed", blank)
            .due(NONE, "feed", blank);
        d.due(1, "end", 379).due(399, "feed", blank).due(NONE, "feed", blank).due(0, "text");
        d.due(20, "feed", blank).due(1, "end", 0).due(20, "feed", blank);
        // All 400 bytes count.
        d.law(1, " ".repeat(390) + "   age 77;").papers(0).due(77, "age", 0, 0)
            .fault(1, 400, " ".repeat(390) + "    age 77");
    }

    private static void bytesInOrder() {
        Desk d = new Desk().papers(0);
        d.due(20, "feed", five("age 123+shelf+paper/")).due(40, "feed", five("9+read+4;age 1; age "))
            .due(60, "feed", five("2;                  "));
        d.due(3, "text").due(127, "age", 0, 0);
        // Each of the twenty places, by the fault that stands there; a byte is 0 .. 255, also with the highest bit.
        for (int at = 0; at < 20; at++) {
            for (int sign : new int[] {0, 1, 127, 128, 255}) {
                int[] n = five(" ".repeat(20));
                n[at / 4] &= ~(255 << 24 - at % 4 * 8);
                n[at / 4] |= sign << 24 - at % 4 * 8;
                new Desk().due(20, "feed", n).due(NONE, "text").due(1, "fault", 0).due(at, "fault", 1);
            }
        }
        // The text comes behind what is there, where it was cut.
        d.due(20, "feed", five("age 5xxxxxxxxxxxxxxx")).due(1, "end", 5).due(25, "feed", five("6;                  "))
            .due(1, "text").due(56, "age", 0, 0);
    }

    private static void endCuts() {
        Desk d = new Desk().papers(0);
        d.due(20, "feed", five("age 12345;          ")).due(1, "end", 20).due(1, "end", 9).due(0, "end", 10)
            .due(NONE, "text");
        d.due(1, "fault", 0).due(4, "fault", 1);
        d.due(20, "feed", five("age 1234;5          ")).due(1, "end", 9).due(1, "text").due(999, "age", 0, 0);
        d.due(20, "feed", five("age 1234;5          ")).due(1, "end", 10).due(NONE, "text").due(9, "fault", 1);
        d.due(20, "feed", five("age 1234;5          ")).due(1, "end", 8).due(NONE, "text").due(8, "fault", 1);
        d.due(20, "feed", five("age 1234;5          ")).due(1, "end", 1).due(0, "end", 2).due(NONE, "text")
            .due(0, "fault", 1);
        d.due(20, "feed", five("age 1234;5          ")).due(1, "end", 0).due(0, "end", 1).due(0, "text").due(0, "fault", 0);
    }

    private static void endRefused() {
        Desk d = new Desk().papers(0);
        d.due(0, "end", 1).due(0, "end", -1).due(0, "end", LEAST).due(0, "end", MOST).due(1, "end", 0);
        d.due(20, "feed", five("age 4;              "));
        for (int n : new int[] {LEAST, -2, -1, 21, 22, 400, MOST}) d.due(0, "end", n);
        d.due(1, "end", 20).due(0, "end", 21).due(1, "text").due(4, "age", 0, 0);
    }

    private static void textTakesTape() {
        Desk d = new Desk();
        for (int lines = 0; lines <= 16; lines++) {
            d.law(lines, "age 1;".repeat(lines)).due(lines, "look", 6).due(0, "end", 1);
        }
        // The tape is empty behind a fault, too; and an empty one is the law of no lines.
        d.fault(1, 0, "x").due(0, "end", 1).due(16, "look", 6).due(0, "text").due(0, "look", 6).due(0, "fault", 0);
    }

    private static void faultLeavesLaw() {
        Desk d = new Desk().papers(0).law(2, "age 41 when paper > 0; age 42;");
        String[] faulty = {"age 1", "age 1; age 1; age 2/0;", "age 1;".repeat(17), "age 1 when (((((((((1=1;", "when"};
        for (String f : faulty) d.law(NONE, f).due(2, "look", 6).due(42, "age", 0, 0);
        d.law("age 43;").due(1, "look", 6).due(43, "age", 0, 0);
    }

    private static void eachTextAnew() {
        // Behind each beginning that breaks off, laws are as ever.
        for (String[] row : STANDS) {
            Desk d = new Desk().papers(0, 1);
            d.put(row[0]).call("text");
            d.law("age 7;").due(7, "age", 0, 0);
            d.put(row[0]).call("text");
            d.law(2, "age 3 + 4 when not shelf = 1 and 1 = 1; age 8;").due(7, "age", 0, 0).due(8, "age", 1, 0);
            d.put(row[0]).call("text");
            d.law(0, "").due(0, "look", 6).due(0, "age", 1, 0);
        }
        // A law that is shorter by its last sign.
        new Desk().papers(0).law("age 5 when not 1=2;").due(5, "age", 0, 0).law("age 5 when 1=2;").due(0, "age", 0, 0)
            .law("age 5 when not not 1=2;").due(0, "age", 0, 0)
            .law("age 5 when not 1=2;").due(5, "age", 0, 0).law("age 5;").due(5, "age", 0, 0).law("age 5-4;")
            .due(1, "age", 0, 0).law("age 5;").due(5, "age", 0, 0);
        // Long ones, time and again.
        Desk d = new Desk().papers(0);
        for (int i = 1; i <= 9; i++) {
            d.law("age " + i + "+1".repeat(197) + ";").due(197 + i, "age", 0, 0)
                .fault(1, 398, "age " + i + "-1".repeat(196) + "-");
        }
    }

    private static void faultOfLatest() {
        Desk d = new Desk();
        d.due(0, "fault", 0).due(NONE, "fault", 1);
        d.fault(2, 6, "age 1/0;").due(2, "fault", 0).due(6, "fault", 1).fault(1, 0, "0").fault(3, 96, "age 1;".repeat(17));
        for (int what : new int[] {LEAST, -1, 2, 3, MOST}) d.due(NONE, "fault", what);
        // Neither a tape that is faulty but no text yet, nor anything else changes it.
        d.put("?").due(3, "fault", 0).due(96, "fault", 1).due(1, "image", 1).due(3, "fault", 0).due(1, "image", 0)
            .due(3, "fault", 0);
        d.due(NONE, "text").due(1, "fault", 0).due(0, "fault", 1).law("age 1;").due(0, "fault", 0).due(NONE, "fault", 1);
        for (int what : new int[] {LEAST, -1, 2, 3, MOST}) d.due(NONE, "fault", what);
    }

    private static void emptyLaw() {
        Desk d = new Desk().aged(33, 0).papers(0);
        d.due(0, "look", 6).due(0, "age", 0, 0).due(33, "read", 0, 0).due(33, "age", 0, 9999).law(0, "")
            .due(33, "age", 0, 0);
        d.law("age 1;").due(1, "age", 0, 0).law(0, " \n\n  ").due(33, "age", 0, 0);
    }

    /** Behind each beginning: what may come, told by words, U for all units. */
    private static final String[][] STANDS = {
        {"", "age END"},
        {"age", "U"},
        {"age 1", "; + - * / when"},
        {"age then", "; + - * / when"},
        {"age 1 +", "U"},
        {"age 1 -", "U"},
        {"age 1 *", "U"},
        {"age 1 /", "NUMBER"},
        {"age 1 / 2", "; + - * / when"},
        {"age 1 when", "U not ("},
        {"age 1 when not", "U not ("},
        {"age 1 when (", "U not ("},
        {"age 1 when not (", "U not ("},
        {"age 1 when 2", "+ - * / < = >"},
        {"age 1 when ( 2", "+ - * / < = >"},
        {"age 1 when not 2", "+ - * / < = >"},
        {"age 1 when 2 +", "U"},
        {"age 1 when 2 /", "NUMBER"},
        {"age 1 when 2 / 3", "+ - * / < = >"},
        {"age 1 when 2 <", "U"},
        {"age 1 when 2 =", "U"},
        {"age 1 when 2 >", "U"},
        {"age 1 when 2 < 3", "; + - * / and or"},
        {"age 1 when 2 < 3 -", "U"},
        {"age 1 when 2 < 3 /", "NUMBER"},
        {"age 1 when 2 < 3 / 4", "; + - * / and or"},
        {"age 1 when not 2 < 3", "; + - * / and or"},
        {"age 1 when ( 2 < 3", ") + - * / and or"},
        {"age 1 when ( 2 < 3 )", "; and or"},
        {"age 1 when ( ( 2 < 3 )", ") and or"},
        {"age 1 when ( ( 2 < 3 ) )", "; and or"},
        {"age 1 when not ( 2 < 3 )", "; and or"},
        {"age 1 when ( not ( 2 < 3 )", ") and or"},
        {"age 1 when 2 < 3 and", "U not ("},
        {"age 1 when 2 < 3 or", "U not ("},
        {"age 1 when ( 2 < 3 ) and", "U not ("},
        {"age 1 when ( 2 < 3 or", "U not ("},
        {"age 1 when 2 < 3 and 4", "+ - * / < = >"},
        {"age 1 when 2 < 3 or 4 = 5", "; + - * / and or"},
        {"age 1 ;", "age END"},
        {"age 1 when 2 < 3 ;", "age END"},
        {"age 1 ; age", "U"}};

    private static void whatCanStand() {
        List<String> tokens = new ArrayList<>(Arrays.asList("age", "when", "or", "and", "not", "7", ";", "+", "-", "*", "/",
            "(",
            ")", "<", "=", ">", "END", "12345", "ages", "x", "?"));
        tokens.addAll(Arrays.asList(FACTS));
        List<String> units = new ArrayList<>(Arrays.asList(FACTS));
        units.add("7");
        for (String[] row : STANDS) {
            List<String> can = new ArrayList<>(Arrays.asList(row[1].replace("NUMBER", "7").split(" ")));
            if (can.contains("U")) can.addAll(units);
            for (String t : tokens) stands(row[0], t, can.contains(t));
        }
    }

    /** What can stand is at fault no sooner than at the end, if the text is not whole there. */
    private static void stands(String beginning, String token, boolean can) {
        Desk d = new Desk();
        if (token.equals("END")) {
            int lines = (int) beginning.chars().filter(c -> c == ';').count();
            if (can) d.law(lines, beginning + " ");
            else d.fault(1, beginning.length(), beginning).fault(1, beginning.length() + 1, beginning + "\n");
            return;
        }
        String text = beginning + " " + token;
        if (!can) d.fault(1, beginning.length() + 1, text).fault(1, beginning.length() + 1, text + " ;");
        else if (token.equals(";")) d.law(1, text);
        else d.fault(1, text.length(), text).fault(1, text.length() + 2, text + " \n");
    }

    private static void theEnd() {
        Desk d = new Desk();
        d.fault(1, 3, "age").fault(1, 4, "age ").fault(1, 5, "age 1").fault(1, 7, "age 1 \n").fault(1, 10, "age 1 when")
            .fault(1, 14, "age 1 when 1=1");
        d.fault(1, 399, " ".repeat(396) + "age").fault(1, 400, " ".repeat(397) + "age")
            .fault(1, 400, "age 1" + " ".repeat(395));
        d.law(1, "age 1;" + " ".repeat(394)).law(0, " ".repeat(400)).law(1, " ".repeat(394) + "age 1;");
    }

    private static void words() {
        Desk d = new Desk();
        // Each word as it is can stand somewhere; a letter less or more is none.
        String[] words = {"age", "when", "or", "and", "not", "then", "now", "dust", "own", "read", "shelf", "kind", "alive",
            "paper"};
        String[] ahead = {"", "age 1 ", "age 1 when 1=1 ", "age 1 when 1=1 ", "age 1 when "};
        for (int i = 0; i < words.length; i++) {
            String a = i < ahead.length ? ahead[i] : "age ";
            String w = words[i];
            new Desk().fault(1, (a + w).length(), a + w).fault(1, a.length(), a + w.substring(1))
                .fault(1, a.length(), a + w.substring(0, w.length() - 1));
            new Desk().fault(1, a.length(), a + w + "s").fault(1, a.length(), a + "s" + w).fault(1, a.length(), a + w + w)
                .fault(1, a.length(), a + w.toUpperCase());
            new Desk().fault(1, a.length(), a + w + "Z").fault(1, a.length(), a + "A" + w).fault(1, a.length(), a + w + "z")
                .fault(1, a.length(), a + "a" + w);
            // What stands beside the letters (@ and [, ` and {) is not one of them.
            for (char c : new char[] {'@', '[', '`', '{', '_'}) new Desk().fault(1, (a + w).length(), a + w + c)
                .fault(1, a.length(), a + c + w);
        }
        d.fault(1, 0, "agethen;").fault(1, 4, "age thenwhen 1=1;").fault(1, 11, "age 1 when notthen=1;")
            .fault(1, 4, "age nowand;");
        d.fault(1, 15, "age 1 when 1=1 andnot 1=1;").fault(1, 0, "A 1;").fault(1, 0, "a").fault(1, 0, "z").fault(1, 0, "Z");
        // Letters end where digits or signs begin.
        d.law("age1;").law("age 1when 1=1;").law("age then+now when(then=1)and not(now=2)or(dust=3);")
            .law("age 1 when not 1=1and 1=1or 1=1;");
        d.law("age 1 when not1=1;").fault(1, 8, "age then1;").fault(1, 5, "age 1then;");
    }

    private static void numbers() {
        Desk d = new Desk().papers(0);
        String[] good = {"0", "9", "10", "99", "100", "998"};
        for (String g : good) d.law("age " + g + ";").due(Integer.parseInt(g), "age", 0, 0);
        d.law("age 0001;").due(1, "age", 0, 0).law("age 9999 - 9998;").due(1, "age", 0, 0).law("age 1000/1000;")
            .due(1, "age", 0, 0);
        d.law("age 9999/9999;").due(1, "age", 0, 0).law("age 0000;").due(0, "age", 0, 0);
        String[] bad = {"00000", "00001", "10000", "99999", "123456", "4294967297", "0".repeat(40)};
        for (String b : bad) d.fault(1, 4, "age " + b + ";").fault(1, 6, "age 1+" + b + ";").fault(1, 6, "age 1/" + b + ";");
        d = new Desk();
        for (String b : bad) d.fault(1, 11, "age 1 when " + b + "=1;").fault(1, 13, "age 1 when 1=" + b + ";")
            .fault(1, 4, "age " + b);
        // Two that a blank parts are two; the signs beside the digits (/ and :) are none of them.
        d = new Desk();
        d.fault(1, 7, "age 12 34;").fault(1, 9, "age 1234\n5;").fault(1, 5, "age 1:2;").fault(1, 4, "age :1;")
            .fault(1, 5, "age 1.5;").fault(1, 5, "age 1,5;");
    }

    private static void signs() {
        String good = ";+-*/()<=>";
        for (int c = 0; c < 256; c++) {
            boolean part = c == 32 || c == 10 || (c >= '0' && c <= '9') || good.indexOf(c) >= 0;
            if (part) continue;
            Desk d = new Desk();
            boolean letter = (c >= 'a' && c <= 'z') || (c >= 'A' && c <= 'Z');
            d.fault(1, 0, "" + (char) c).fault(1, 5, "age 1" + (char) c + ";").fault(1, 6, "age 1 " + (char) c + " ;");
            d.fault(1, letter ? 0 : 3, "age" + (char) c + "1;").fault(1, 6, "age 1;" + (char) c)
                .fault(1, letter ? 4 : 8, "age then" + (char) c);
        }
        // Signs need no blanks, and two together are two.
        new Desk().law("age 1+2-3*4/5 when(1<2)and(2=2)or(3>2);").fault(1, 13, "age 1 when 1<=1;")
            .fault(1, 13, "age 1 when 1>=1;")
            .fault(1, 13, "age 1 when 1==1;").fault(1, 12, "age 1 when 1!1;").fault(1, 6, "age 1;;")
            .fault(1, 6, "age 1**2;");
    }

    private static void blanks() {
        Desk d = new Desk().papers(0);
        d.law(" age 5;").law("\nage 5;").law("age\n5\n;\n").law("age  \n \n 5 ; ").due(5, "age", 0, 0).law("age 5 / 5 ;")
            .due(1, "age", 0, 0);
        for (int c : new int[] {0, 8, 9, 11, 12, 13, 31, 33, 127, 160}) {
            new Desk().fault(1, 3, "age" + (char) c + "5;").fault(1, 0, (char) c + "age 5;").fault(1, 6, "age 5;" + (char) c)
                .fault(1, 5, "age 5" + (char) c + ";");
        }
        // They part what stands together.
        new Desk().fault(1, 0, "a ge 5;").fault(1, 4, "age th en;").fault(1, 6, "age 5 5;").fault(1, 7, "age 1 \n2;");
    }

    private static void firstFault() {
        Desk d = new Desk();
        d.fault(1, 4, "age + 1/0;").fault(2, 6, "age 1/0 +;").fault(2, 6, "age 1/0 12345;").fault(1, 4, "age 12345/0;")
            .fault(2, 6, "age 1/0");
        d.fault(2, 6, "age 1/0/0;").fault(1, 5, "age 1)1/0;").fault(3, 19, "age 1 when (((((((((1/0=1;");
        d.fault(2, 13, "age 1 when 1/0=((((((((((;").fault(2, 21, "age 1 when ((((((((1/0 = 1 and (1=1")
            .fault(1, 0, "x age 1/0;");
        d = new Desk();
        d.fault(2, 96, "age 1;".repeat(15) + "age 1/0;age 1;").fault(3, 96, "age 1;".repeat(16) + "age 1/0;")
            .fault(1, 95, "age 1;".repeat(15) + "age 1age 1;");
        d.fault(3, 96, "age 1;".repeat(16) + "age").fault(3, 96, "age 1;".repeat(16) + "age x")
            .fault(3, 19, "age 1 when (((((((((");
        d.fault(3, 19, "age 1 when ((((((((( x").fault(3, 43, "age 1 when " + "not ".repeat(9));
    }

    private static void leastFault() {
        Desk d = new Desk();
        // A part by nought in five digits; what cannot stand where it would be the 9th or the 17th.
        d.fault(1, 6, "age 1/00000;").fault(2, 6, "age 1/0000;").fault(1, 20, "age 1 when ((((((((1(1=1;")
            .fault(1, 20, "age 1 when ((((((((1not 1=1;");
        d.fault(1, 23, "age 1 when ((((((((1=1 (1=1;").fault(1, 22, "age 1 when ((((((((1=1not 1=1;")
            .fault(1, 21, "age 1 when ((((((((1=not 1;");
        d.fault(1, 4, "age (1=1;").fault(1, 4, "age not 1;");
        d.fault(1, 96, "age 1;".repeat(16) + "then;").fault(1, 96, "age 1;".repeat(16) + ";")
            .fault(1, 96, "age 1;".repeat(16) + "ages 1;").fault(1, 4, "age age 1;");
    }

    private static void partByZero() {
        Desk d = new Desk().papers(0);
        d.fault(2, 6, "age 1/0;").fault(2, 6, "age 1/00;").fault(2, 6, "age 1/000;").fault(2, 6, "age 1/0000;")
            .fault(2, 8, "age 1 / 0;").fault(2, 9, "age 1 / \n0;");
        d.fault(2, 9, "age then/0;").fault(2, 8, "age 1/1/0;").fault(2, 8, "age 1*1/0;").fault(2, 8, "age 1+1/0;");
        d.fault(2, 13, "age 1 when 1/0=1;").fault(2, 15, "age 1 when 1=1/0;").fault(2, 14, "age 1 when (1/0=1);")
            .fault(2, 13, "age 1;age 10/0;");
        // Nought as a unit, and parts by one, are no faults.
        d.law("age 0;").law("age 0/1;").due(0, "age", 0, 0).law("age 5/1;").due(5, "age", 0, 0).law("age 5/0001;")
            .due(5, "age", 0, 0);
        d.law("age 5*0;").due(0, "age", 0, 0).law("age 5 when 0=0;").due(5, "age", 0, 0).law("age 7/10;")
            .due(0, "age", 0, 0);
    }

    private static void seventeenthLine() {
        Desk d = new Desk().papers(0);
        String fifteen = "age 1 when 1=2;".repeat(15);
        d.law(15, fifteen).law(16, fifteen + "age 7;").due(7, "age", 0, 0).law(16, fifteen + "age 8 when 1=1;\n ")
            .due(8, "age", 0, 0);
        d.fault(3, 231, fifteen + "age 7;age 1;").fault(3, 233, fifteen + "age 7; \nage 1;")
            .fault(3, 231, fifteen + "age 7;age").due(16, "look", 6).due(8, "age", 0, 0);
        d = new Desk();
        d.law(16, "age 1;".repeat(16)).fault(3, 96, "age 1;".repeat(17)).fault(3, 96, "age 1;".repeat(18))
            .fault(3, 96, "age 1;".repeat(66)).law(15, "age 1;".repeat(15));
        // The 16th may be wrong by itself.
        d.fault(1, 95, "age 1;".repeat(15) + "age 1").fault(2, 96, "age 1;".repeat(15) + "age 1/0;")
            .law(16, "age 1;".repeat(16));
    }

    private static void ninthOpen() {
        Desk d = new Desk().papers(0);
        for (int not = 0; not <= 9; not++) {
            int shut = 9 - not;
            // Eight of both hold; one ( more, or one not more, is the ninth.
            if (not <= 8) {
                String eight = "not ".repeat(not) + "(".repeat(8 - not);
                d.law(2, "age 5 when " + eight + "1=1" + ")".repeat(8 - not) + ";age 6;")
                    .due(not % 2 == 0 ? 5 : 6, "age", 0, 0);
                new Desk().fault(3, 11 + eight.length(), "age 1 when " + eight + "(1=1;")
                    .fault(3, 11 + eight.length(), "age 1 when " + eight + "not 1=1;");
            }
            String nine = "(".repeat(shut) + "not ".repeat(not);
            new Desk().fault(3, not > 0 ? 11 + nine.length() - 4 : 19,
                "age 1 when " + nine + "1=1" + ")".repeat(shut) + ";");
        }
        new Desk().law("age 1 when not(not(not(not(1=1))));").fault(3, 27, "age 1 when not(not(not(not(not 1=1))));")
            .fault(3, 27, "age 1 when not(not(not(not((1=1)))));");
        // Behind a joint they are still open.
        new Desk().law("age 1 when 1=1 and (1=1 or ((((((1=1 and (1=1))))))));")
            .fault(3, 42, "age 1 when 1=1 and (1=1 or ((((((1=1 and ((1=1)))))))));");
    }

    private static void closedOnes() {
        // Each ) and the end of what a not denies closes one.
        String open = "((((((((1=1))))))))";
        String nots = "not not not not not not not not 1=1";
        Desk d = new Desk();
        d.law("age 1 when " + open + " and " + open + " or " + open + ";")
            .law("age 1 when " + nots + " and " + nots + " or " + nots + ";");
        d.law("age 1 when not(1=1) and " + open + ";").law("age 1 when not 1=1 or " + open + ";")
            .law("age 1 when " + open + " and " + nots + ";");
        d.law("age 1 when (not 1=1 and not 1=1 and (((((((1=1))))))));")
            .law("age 1 when (not 1=1 and not not not not not not not 1=1);");
        d.fault(3, 52, "age 1 when (not 1=1 and not not not not not not not not 1=1);");
        d.law("age 1 when (1=1)and(1=1)and(1=1)and(1=1)and(1=1)and(1=1)and(1=1)and(1=1)and(1=1)and(1=1);");
        d.law("age 1 when not 1=1 and not 1=1 and not 1=1 and not 1=1 and not 1=1 and not 1=1 and not 1=1 and not 1=1 and not 1=1;");
        // A not in front of ( is open until the ) of it, and no longer.
        d = new Desk();
        d.law("age 1 when not(not(not(1=1) and ((((1=1))))));")
            .fault(3, 36, "age 1 when not(not(not(1=1) and (((((1=1)))))));");
        // Each line begins anew.
        d.law(2, "age 1 when " + open + ";age 1 when " + open + ";")
            .law(2, "age 1 when " + nots + ";age 1 when " + nots + ";");
        // So does each text, also behind a fault in the midst of open ones.
        d.fault(1, 19, "age 1 when ((((((((").law("age 1 when " + open + ";").fault(3, 19, "age 1 when (((((((((")
            .law("age 1 when " + open + ";");
    }

    private static void holds(boolean want, String test) {
        new Desk().papers(0).law(2, "age 5 when " + test + ";age 6;").due(want ? 5 : 6, "age", 0, 0);
    }

    private static void tests() {
        String t = "1=1";
        String f = "1=2";
        for (int i = 0; i < 8; i++) {
            boolean a = (i & 1) != 0;
            boolean b = (i & 2) != 0;
            boolean c = (i & 4) != 0;
            String x = a ? t : f;
            String y = b ? t : f;
            String z = c ? t : f;
            holds(a, x);
            holds(!a, "not " + x);
            holds(a, "not not " + x);
            holds(!a, "not(not not(" + x + "))");
            holds(a || b, x + " or " + y);
            holds(a && b, x + " and " + y);
            holds(a || (b && c), x + " or " + y + " and " + z);
            holds((a && b) || c, x + " and " + y + " or " + z);
            holds((a || b) && c, "(" + x + " or " + y + ") and " + z);
            holds(a && (b || c), x + " and (" + y + " or " + z + ")");
            holds(!a && b, "not " + x + " and " + y);
            holds(!a || b, "not " + x + " or " + y);
            holds(!(a && b), "not (" + x + " and " + y + ")");
            holds(!(a || b), "not(" + x + " or " + y + ")");
            holds(a && !b || c, x + " and not " + y + " or " + z);
            holds(a || !(b && !c), x + " or not (" + y + " and not " + z + ")");
            holds(a && b && c, x + " and " + y + " and " + z);
            holds(a || b || c, x + " or " + y + " or " + z);
        }
    }

    private static void comparisons() {
        for (int l = 4; l <= 6; l++) {
            holds(l < 5, l + "<5");
            holds(l == 5, l + "=5");
            holds(l > 5, l + ">5");
        }
        holds(true, "1+1=2");
        holds(true, "2=1+1");
        holds(true, "2*3>5");
        holds(false, "2*3>6");
        holds(true, "2*3<7");
        holds(false, "5-1<2+2");
        holds(true, "5-2<2+2");
        holds(true, MINUS_ONE + "<0");
        holds(false, MINUS_ONE + ">0");
        holds(true, "0-1=" + MINUS_ONE);
        holds(true, SMALLEST + "<" + GREATEST);
        holds(false, SMALLEST + ">" + GREATEST);
        holds(true, GREATEST + ">" + SMALLEST);
        holds(false, SMALLEST + "=" + GREATEST);
    }

    private static void counts(int want, String value) {
        new Desk().papers(0).law("age " + value + ";").due(want, "age", 0, 0);
    }

    private static void sums() {
        counts(14, "2+3*4");
        counts(10, "2*3+4");
        counts(20, "2*3*4-4");
        counts(5, "10-3-2");
        counts(9, "10-3+2");
        counts(11, "10+3-2");
        counts(4, "10-3*2");
        counts(2, "20/5/2");
        counts(8, "20/5*2");
        counts(6, "7*2/2-1");
        counts(6, "9/4*3");
        counts(7, "9-7/3");
        counts(3, "3/2*3");
        counts(4, "3*3/2");
        counts(1, "1-2+2");
        counts(196, "1" + "+1".repeat(195));
        counts(0, "999" + "-9".repeat(111));
        counts(1, "1000" + "-9".repeat(111));
        counts(512, "2" + "*2".repeat(8));
    }

    private static void wraps() {
        counts(0, GREATEST + "+1");
        counts(999, GREATEST);
        counts(0, SMALLEST);
        counts(999, SMALLEST + "-1");
        counts(0, MINUS_ONE);
        counts(0, MINUS_ONE + "+1");
        counts(1, MINUS_ONE + "+2");
        counts(1, MINUS_ONE + "*" + MINUS_ONE);
        counts(0, SMALLEST + "+" + SMALLEST);
        counts(0, SMALLEST + "*2");
        counts(5, SMALLEST + "*2+5");
        counts(3, "5 - " + GREATEST + " - " + GREATEST + " - 4");
        holds(true, GREATEST + "+1=" + SMALLEST);
        holds(true, SMALLEST + "-1=" + GREATEST);
        holds(true, "0-" + SMALLEST + "=" + SMALLEST);
        holds(true, GREATEST + "+1<0");
        holds(true, "9999*9999*9999 + 1027*1000*1000 + 349*1000 + 969 = 0");
    }

    private static void towardsZero() {
        counts(5, MINUS_ONE + "/2+5");
        counts(4, MINUS_ONE + "/1+5");
        counts(4, MINUS_ONE + "*2/2+5");
        counts(4, MINUS_ONE + "*3/2+5");
        counts(3, MINUS_ONE + "*4/2+5");
        counts(3, MINUS_ONE + "*5/2+5");
        counts(5, MINUS_ONE + "*9998/9999+5");
        counts(4, MINUS_ONE + "*9999/9999+5");
        counts(2, "5/2");
        counts(0, "1/2");
        counts(0, "9998/9999");
        counts(6, SMALLEST + "/9999 + 214*1000 + 769 + 6");
        holds(true, SMALLEST + "/2=0-1024*1024*1024");
        holds(true, SMALLEST + "/1=" + SMALLEST);
        holds(true, SMALLEST + "/3 + 715*1000*1000 + 827*1000 + 882 = 0");
    }

    private static void firstLine() {
        Desk d = new Desk().papers(0, 1, 2, 3);
        d.law(3, "age 11 when shelf=1; age 12 when shelf>0; age 13;").due(13, "age", 0, 0).due(11, "age", 1, 0)
            .due(12, "age", 2, 0);
        d.law(3, "age 11 when shelf=1; age 14; age 15 when shelf=2;").due(14, "age", 0, 0).due(11, "age", 1, 0)
            .due(14, "age", 2, 0);
        String lines = "";
        for (int i = 0; i < 15; i++) lines += "age " + (i + 20) + " when dust=" + i + ";";
        d.law(16, lines + "age 99;");
        for (int i = 0; i < 15; i++) d.due(i + 20, "age", 0, i);
        d.due(99, "age", 0, 15);
    }

    private static void noLine() {
        Desk d = new Desk().aged(45, 0).papers(0);
        d.law("age 7 when dust=3;").due(0, "age", 0, 0).due(45, "read", 0, 0).due(45, "age", 0, 2).due(7, "age", 0, 3)
            .due(45, "age", 0, 4);
        // The greatest that it can be.
        d = new Desk().at(9999).papers(0);
        d.call("reader", -36500, NONE, 1, 0);
        d.due(137, "read", 0, 0).due(137, "age", 0, 9999);
    }

    private static void held() {
        counts(0, "0-2");
        counts(0, "0-1");
        counts(0, "0");
        counts(1, "1");
        counts(998, "998");
        counts(999, "999");
        counts(999, "1000");
        counts(999, "9999*9999");
        // Inside of a sum nothing is held.
        counts(500, "1500-1000");
        counts(5, "0-5+10");
        holds(true, "1000>999");
        holds(true, "0-1<0");
    }

    private static void now() {
        Desk d = new Desk().papers(0, 0).law("age now;");
        d.call("reader", -364, 5, 0, 0);
        d.due(0, "age", 1, 9999).due(0, "read", 0, 0).due(0, "age", 0, 0).due(1, "age", 0, 1).due(1, "age", 0, 365)
            .due(2, "age", 0, 366);
        // He is dead by then, and it goes on.
        d.at(5).due(0, "who", 0, 5).due(1, "age", 0, 5).due(28, "age", 0, 9999).due(1, "set", 0, 1, 1).due(11, "age", 0, 5)
            .due(38, "age", 0, 9999);
    }

    private static void then() {
        Desk d = new Desk().papers(0).law("age then;");
        d.call("reader", -364, NONE, 0, 0);
        d.due(0, "read", 0, 0).due(0, "age", 0, 9999).at(1).due(0, "age", 0, 1).due(1, "read", 0, 0).due(1, "age", 0, 9999);
        d.call("set", 0, 1, 1);
        d.due(1, "age", 0, 1).due(11, "read", 0, 0).due(11, "of", 0, 3);
    }

    private static void dust() {
        Desk d = new Desk().at(3).papers(0).aged(9, 0).law("age dust;");
        d.due(0, "age", 0, 3).due(1, "age", 0, 4).due(997, "age", 0, 1000).due(999, "age", 0, 1002).due(999, "age", 0, 1003);
        d.at(10).due(7, "age", 0, 10).due(0, "read", 0, 0).due(0, "age", 0, 10).due(1, "age", 0, 11).at(15)
            .due(5, "age", 0, 15).due(1, "fire", 0);
        d.due(0, "age", 0, 15).due(1, "age", 0, 16);
    }

    private static void own() {
        Desk d = new Desk().at(3).papers(0).aged(9, 0).law("age own;");
        int[][] want = {{3, 0}, {4, 0}, {367, 0}, {368, 1}, {369, 1}, {732, 1}, {733, 2}, {9999, 27}};
        for (int[] w : want) d.due(w[1], "age", 0, w[0]);
        // Neither a reading nor a fire makes it new.
        d.at(367).due(0, "read", 0, 0).at(368).due(1, "age", 0, 368).due(1, "fire", 0).due(1, "age", 0, 368);
    }

    private static void read() {
        Desk d = new Desk().papers(0, 0).aged(9, 0).law("age read;");
        d.due(0, "age", 0, 0);
        for (int i = 1; i <= 130; i++) d.due(i, "read", 0, 0);
        d.due(130, "age", 0, 9999).due(0, "age", 1, 0).due(2, "fire", 0).due(0, "age", 0, 0).due(1, "read", 0, 0);
    }

    private static void shelfAndPaper() {
        Desk d = new Desk();
        for (int p = 0; p < 12; p++) d.papers(p % 5);
        d.law("age shelf*100 + paper;");
        for (int p = 0; p < 12; p++) d.due(p % 5 * 100 + p, "age", p, 0);
        d.due(1, "move", 11, 4).due(411, "age", 11, 0).due(1, "swap", 4, 0).due(11, "age", 11, 0).due(400, "age", 0, 0);
    }

    private static void kind() {
        Desk d = new Desk().papers(0).law("age kind;");
        for (int k = 0; k < 4; k++) d.aged(9, k);
        d.due(9, "age", 0, 0);
        for (int k = 0; k < 4; k++) d.due(k, "read", 0, k);
        d.due(1, "set", 3, 0, 0).due(3, "age", 0, 0).due(1, "fire", 0).due(9, "age", 0, 0);
    }

    private static void alive() {
        Desk d = new Desk().papers(0).law("age alive;");
        d.call("reader", 0, 9, 0, 0);
        d.call("reader", 0, NONE, 0, 0);
        d.due(0, "age", 0, 0).due(1, "read", 0, 0).due(1, "age", 0, 8).due(0, "age", 0, 9).due(0, "age", 0, 9999)
            .due(1, "set", 0, 0, 0).due(0, "age", 0, 0);
        d.due(1, "read", 0, 1).due(1, "age", 0, 9999).due(1, "fire", 0).due(0, "age", 0, 0);
    }

    private static void ageDays() {
        Desk d = new Desk();
        d.due(NONE, "age", 0, 0).papers(0, 0).law("age dust;");
        d.due(NONE, "age", 0, -1).due(0, "age", 0, 0).due(1, "age", 0, 1).due(999, "age", 0, 9998).due(999, "age", 0, 9999)
            .due(NONE, "age", 0, 10000);
        d.at(500).due(NONE, "age", 0, 0).due(NONE, "age", 0, 499).due(500, "age", 0, 500).due(501, "age", 0, 501)
            .due(NONE, "age", 0, LEAST).due(NONE, "age", 0, MOST);
        for (int p : new int[] {LEAST, -1, 2, 12, MOST}) d.due(NONE, "age", p, 500);
        d.at(9999).due(NONE, "age", 1, 9998).due(999, "age", 1, 9999).due(NONE, "age", 1, 10000);
    }
}

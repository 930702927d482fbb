import java.util.List;
import java.util.function.Supplier;

/** The boundaries of what is undone, of the image, of looks, and of calls that are refused (promises 27 to 29, and all). */
public final class ReturnBoundsTest {
    private static final int NONE = Desk.NONE;
    private static final int LEAST = Desk.LEAST;
    private static final int MOST = Desk.MOST;

    public static void main(String[] args) {
        Desk.sentence("27 10 are kept", ReturnBoundsTest::tenAreKept);
        Desk.sentence("27 the latest READING not undone yet goes back", ReturnBoundsTest::latestGoesBack);
        Desk.sentence("27 false if there is nothing", ReturnBoundsTest::nothingToUndo);
        Desk.sentence("27 a READING that has no line in THE BOOK", ReturnBoundsTest::undoneBesideFullBook);
        Desk.sentence("27 whatever else is told or done forgets them", ReturnBoundsTest::forgets);
        Desk.sentence("27 but texts, CLAIMS, STATE and the taking of THE IMAGE", ReturnBoundsTest::keeps);
        Desk.sentence("27 what is refused or asked is neither told nor done", ReturnBoundsTest::refusedForgetsNothing);
        Desk.sentence("28 false if there is none", ReturnBoundsTest::noImage);
        Desk.sentence("28 all that is and was told, as it was when it was taken", ReturnBoundsTest::allGoesBack);
        Desk.sentence("28 all that is: lines of THE BOOK that were undone and written anew since",
            ReturnBoundsTest::bookGoesBack);
        Desk.sentence("28 but the TAPE, fault()", ReturnBoundsTest::tapeAndFaultStay);
        Desk.sentence("28 and what can be undone (nothing then)", ReturnBoundsTest::nothingUndoneThen);
        Desk.sentence("28 gone back to it may be more than once", ReturnBoundsTest::moreThanOnce);
        Desk.sentence("28 THE IMAGE is taken (true): the latest", ReturnBoundsTest::latestImage);
        Desk.sentence("28 an image of an empty archive, and of a full one", ReturnBoundsTest::emptyAndFull);
        Desk.sentence("29 NONE for another what. (STATE as it is.)", ReturnBoundsTest::look);
        Desk.sentence("what can't be changes nothing", ReturnBoundsTest::refusedChangesNothing);
        Desk.sentence("what is full takes nothing", ReturnBoundsTest::fullTakesNothing);
        Desk.finish();
    }

    private static void tenAreKept() {
        for (int n : new int[] {0, 1, 2, 9, 10, 11, 12, 20, 21, 35}) {
            Desk d = new Desk().papers(0).aged(9, 0);
            for (int i = 0; i < n; i++) d.due(Math.min(10, i), "look", 7).due(9, "read", 0, 0);
            int kept = Math.min(10, n);
            for (int i = 0; i < kept; i++) d.due(kept - i, "look", 7).due(n - i, "of", 0, 4).due(n - i, "look", 3)
                .due(1, "undo");
            d.due(0, "look", 7).due(0, "undo").due(n - kept, "of", 0, 4).due(n - kept, "look", 3);
        }
        // Undone ones make room: ten of them may be gone back again.
        Desk d = new Desk().papers(0).aged(9, 0);
        for (int i = 0; i < 10; i++) d.due(9, "read", 0, 0);
        for (int i = 0; i < 3; i++) d.due(1, "undo");
        for (int i = 0; i < 3; i++) d.due(9, "read", 0, 0);
        d.due(10, "look", 7);
        for (int i = 0; i < 10; i++) d.due(1, "undo");
        d.due(0, "undo").due(0, "of", 0, 4);
        d = new Desk().papers(0).aged(9, 0);
        for (int i = 0; i < 14; i++) d.due(9, "read", 0, 0);
        for (int i = 0; i < 4; i++) d.due(1, "undo");
        for (int i = 0; i < 6; i++) d.due(9, "read", 0, 0);
        d.due(10, "look", 7).due(16, "of", 0, 4);
        for (int i = 0; i < 10; i++) d.due(1, "undo");
        d.due(0, "undo").due(6, "of", 0, 4);
    }

    private static void latestGoesBack() {
        Desk d = new Desk().papers(3, 4).aged(20, 0).aged(30, 1).at(2).due(20, "read", 0, 0).at(4);
        d.due(1, "lease", 0, 1).due(30, "read", 0, 1).due(20, "read", 1, 0).due(30, "read", 1, 1).due(20, "read", 0, 0);
        int[][][] want = {{{0, 20, 3, 4}, {1, 30, 2, 4}}, {{1, 30, 2, 4}, {1, 30, 2, 4}}, {{1, 30, 2, 4}, {0, 20, 1, 4}},
            {{1, 30, 2, 4}, {NONE, 0, 0, 0}}, {{0, 20, 1, 2}, {NONE, 0, 0, 0}}};
        for (int step = 0; step < 5; step++) {
            if (step > 0) d.due(1, "undo");
            d.due(5 - step, "look", 3).due(4 - step, "look", 7).due(NONE, "book", 5 - step, 0).due(3, "of", 0, 0)
                .due(4, "of", 1, 0).due(1, "of", 0, 6);
            for (int p = 0; p < 2; p++) for (int what = 0; what < 4; what++) d.due(want[step][p][what], "of", p, what + 2);
        }
        // The day's end had forgotten the first of them.
        d.due(0, "undo").due(1, "look", 3);
        // The line that comes next stands where the undone one stood.
        d.due(30, "read", 1, 1).due(2, "look", 3).due(1, "book", 1, 0).due(1, "book", 1, 1).due(0, "book", 1, 3)
            .due(30, "book", 1, 4);
        d.due(1, "undo").due(0, "leaps", 1, 0, 0).due(1, "leaps", 0, 0, 0);
    }

    private static void nothingToUndo() {
        Desk d = new Desk();
        d.due(0, "undo").papers(0).aged(9, 0).due(0, "undo").due(9, "read", 0, 0).due(1, "undo").due(0, "undo")
            .due(0, "undo").due(0, "look", 7);
        d.due(9, "read", 0, 0).due(1, "look", 7).due(1, "undo").due(0, "of", 0, 4).due(0, "look", 3);
    }

    private static void undoneBesideFullBook() {
        for (int over : new int[] {0, 1, 5, 9, 10, 11}) {
            Desk d = new Desk().papers(0).aged(9, 0);
            for (int i = 0; i < 120 + over; i++) d.due(9, "read", 0, 0);
            for (int i = 1; i <= 10; i++) d.due(1, "undo").due(Math.min(120, 120 + over - i), "look", 3)
                .due(120 + over - i, "of", 0, 4);
            d.due(0, "undo");
            // The book goes on from there.
            int lines = Math.min(120, 110 + over);
            d.due(9, "read", 0, 0).due(Math.min(120, lines + 1), "look", 3).due(1, "undo").due(lines, "look", 3);
        }
    }

    /** Two readings that can be undone, with an image from before, and something of all else. */
    private static Desk busy() {
        Desk d = new Desk().papers(0, 1, 1).aged(20, 0).aged(30, 2)
            .law(2, "age then + dust when paper = 0; age then + read;");
        d.call("reader", 50, NONE, 1, 3);
        d.call("reader", -99, 3, 1, 3);
        d.call("set", 0, 2, 1);
        d.call("lease", 1, 1);
        d.call("read", 2, 1);
        d.call("image", 1);
        d.call("claim", 0, 9, 5, 500);
        d.call("claim", 1, 9000, 21, 21);
        d.at(5).fault(2, 6, "age 1/0;");
        d.call("state", 1234);
        d.due(32, "read", 2, 1).due(20, "read", 0, 0)
            .due(20, "feed", 0x61676520, 0x373B2020, 0x20202020, 0x20202020, 0x20202020);
        return d.due(2, "look", 7);
    }

    private static final String[] DONE = {"days 1", "days 400", "reader 0 -1 0 0", "reader 0 5 1 3", "set 0 0 -1",
        "set 0 0 9", "set 0 1 0", "set 0 1 1", "set 0 2 1",
        "set 0 2 9999", "paper 0", "paper 4", "move 0 0", "move 1 4", "swap 0 1", "swap 3 4", "fire 0", "fire 4",
            "lease 0 -1", "lease 0 0", "lease 1 1", "image 0"};

    private static int[] numbers(String call) {
        String[] w = call.split(" ");
        int[] n = new int[w.length - 1];
        for (int i = 0; i < n.length; i++) n[i] = Integer.parseInt(w[i + 1]);
        return n;
    }

    private static String name(String call) {
        return call.split(" ")[0];
    }

    private static void forgets() {
        for (String c : DONE) {
            Desk d = busy();
            int got = d.call(name(c), numbers(c));
            Desk.same(c + " is done", got == NONE, false);
            d.due(0, "look", 7).due(0, "undo");
            // What is read behind it can be undone, and no more than that.
            int by = d.call("who", 1, 5) == 1 ? 1 : 0;
            d.call("read", 1, by);
            d.due(1, "look", 7).due(1, "undo").due(0, "undo");
        }
    }

    private static void keeps() {
        String[] kept = {"feed 1 2 3 4 5", "end 0", "end 20", "text", "claim 0 9 0 0", "state 0", "state 5", "image 1"};
        for (String c : kept) {
            Desk d = busy();
            d.call(name(c), numbers(c));
            d.due(2, "look", 7).due(1, "undo").due(1, "undo").due(0, "undo").due(0, "of", 0, 4).due(1, "of", 2, 4);
        }
        // A text that is faulty, and one that is the law.
        Desk d = busy().fault(1, 0, "x").due(2, "look", 7).law("age 7;").due(2, "look", 7).law(0, "").due(2, "look", 7)
            .due(1, "undo").due(1, "undo").due(1, "look", 3);
        d.due(0, "look", 6);
        // Undoing itself forgets nothing of what is left.
        busy().due(1, "undo").due(1, "look", 7).due(1, "undo").due(0, "look", 7);
    }

    private static final String[] REFUSED = {"reader -36501 -1 0 0", "reader 10000 -1 0 0", "reader 0 -2 0 0",
        "reader 0 10000 0 0", "reader 0 -1 -1 0", "reader 0 -1 2 0",
        "reader 0 -1 0 -1", "reader 0 -1 0 4", "set -1 0 -1", "set 4 0 -1", "set 0 -1 0", "set 0 3 0", "set 0 0 -2",
            "set 0 0 4", "set 0 0 10000", "set 0 1 -1", "set 0 1 2",
        "set 0 2 -1", "set 0 2 10000", "paper -1", "paper 5", "move -1 0", "move 3 0", "move 0 -1", "move 0 5", "swap 0 0",
            "swap 1 1", "swap -1 0", "swap 0 -1", "swap 5 0", "swap 0 5",
        "fire -1", "fire 5", "read -1 0", "read 3 0", "read 0 -1", "read 0 4", "read 0 2", "read 0 3", "lease -1 0",
            "lease 3 0", "lease -1 -1", "lease 3 -1", "lease 0 -2",
        "lease 0 4", "lease 0 2", "lease 0 3", "days 0", "days -1", "days 401", "end -1", "end 21", "claim -1 9 0 0",
            "claim 3 9 0 0", "claim 0 4 0 0", "claim 0 10000 0 0",
        "claim 0 9 -1 0", "claim 0 9 0 1000", "claim 0 9 1 0"};
    private static final String[] ASKED = {"fault -1", "fault 2", "age -1 5", "age 3 5", "age 0 4", "age 0 10000",
        "of -1 0", "of 3 0", "of 0 -1", "of 0 8", "who -1 0", "who 4 0", "who 0 -1",
        "who 0 8", "book -1 0", "book 3 0", "book 0 -1", "book 0 5", "fewest -1", "fewest 1", "fewest 9", "fewest 22",
            "thumbs -1 0 0", "thumbs 3 0 0", "thumbs 0 -1 0", "thumbs 0 1000 0",
        "thumbs 0 0 -1", "thumbs 0 0 3", "leaps -1 0 0", "leaps 4 0 0", "leaps 0 -1 0", "leaps 0 1000 0", "leaps 0 0 -1",
            "leaps 0 0 2", "mean -1", "mean 5", "mean 2", "look -1", "look 9"};

    private static boolean answersByBoolean(String name) {
        return List.of("set", "move", "swap", "lease", "end", "undo", "image").contains(name);
    }

    private static int refusal(String name) {
        return answersByBoolean(name) ? 0 : name.equals("of") ? NONE - 1 : name.equals("who") ? NONE - 99999 : NONE;
    }

    private static void refusedForgetsNothing() {
        for (String c : REFUSED) busy().due(refusal(name(c)), name(c), numbers(c)).due(2, "look", 7).due(1, "undo")
            .due(1, "undo").due(0, "undo");
        for (String c : ASKED) busy().due(refusal(name(c)), name(c), numbers(c)).due(2, "look", 7).due(1, "undo")
            .due(1, "undo").due(0, "undo");
        // An image that is not there.
        Desk d = new Desk().papers(0).aged(9, 0).due(9, "read", 0, 0).due(0, "image", 0).due(1, "look", 7).due(1, "undo");
        // Days that would go beyond the last one; a thirteenth reader and paper; a seventh claim.
        d = new Desk().at(9999).papers(0).aged(9, 0).due(9, "read", 0, 0).due(NONE, "days", 1).due(1, "look", 7)
            .due(1, "undo");
        d = new Desk();
        for (int i = 0; i < 12; i++) d.papers(0).aged(9, 0);
        d.due(9, "read", 0, 0).due(NONE, "paper", 0).due(NONE, "reader", 0, NONE, 0, 0).due(1, "look", 7).due(1, "undo");
    }

    private static void changesNothing(Supplier<Desk> of, String c) {
        Desk d = of.get();
        List<Integer> before = d.all();
        d.due(refusal(name(c)), name(c), numbers(c));
        Desk.same("what is seen behind " + c, d.all(), before);
        // The tape and the image, which only change by being seen.
        d.due(0, "end", 21).due(1, "end", 20).due(1, "text").due(7, "age", 0, 9999);
        d.due(1, "image", 0).due(0, "look", 0).due(2, "look", 6).due(1, "look", 3).due(0, "look", 4).due(0, "look", 5);
    }

    private static void refusedChangesNothing() {
        for (String c : REFUSED) changesNothing(ReturnBoundsTest::busy, c);
        for (String c : ASKED) changesNothing(ReturnBoundsTest::busy, c);
    }

    private static void fullTakesNothing() {
        for (String c : new String[] {"reader 50 40 1 3", "paper 4", "claim 0 9 0 0", "reader 0 -2 0 0", "paper 5",
            "claim 0 9 1 0"}) {
            Desk d = busy();
            for (int i = 0; i < 8; i++) d.aged(9, 0);
            for (int i = 0; i < 9; i++) d.papers(0);
            for (int i = 0; i < 4; i++) d.call("claim", 0, 9, 0, 999);
            d.due(10, "read", 11, 11).due(NONE, name(c), numbers(c));
            int[] looks = {5, 12, 12, 4, 6, 1234, 2, 1, 0};
            for (int what = 0; what <= 8; what++) d.due(looks[what], "look", what);
            int[] paper = {0, 5, 11, 9, 1, 5, NONE, 400};
            int[] reader = {5 - 9 * 365, NONE, 0, 0, 0, 1, 9, 0};
            for (int what = 0; what <= 7; what++) d.due(paper[what], "of", 11, what).due(reader[what], "who", 11, what);
        }
        // A tape that has no room keeps what it has.
        Desk d = new Desk().papers(0).law("age 3;");
        d.put("age 4;" + " ".repeat(375)).due(NONE, "feed", 0x78787878, 0, 0, 0, 0).due(0, "end", 382).due(1, "end", 381)
            .due(1, "text").due(4, "age", 0, 0);
    }

    private static void noImage() {
        Desk d = new Desk().due(0, "image", 0).papers(0).due(0, "image", 0).due(1, "look", 2).due(1, "image", 1)
            .due(1, "image", 0).due(1, "look", 2);
    }

    private static void allGoesBack() {
        Desk d = busy();
        d.due(1, "image", 1);
        List<Integer> before = d.all();
        before.set(7, 0);
        String[] changes = {"set 0 0 900", "set 0 1 1", "set 0 2 9999", "set 1 1 1", "reader 0 -1 0 1", "paper 3",
            "move 0 4", "swap 0 1", "read 0 0", "read 1 1", "read 3 0", "lease 0 0",
            "lease 1 -1", "fire 4", "claim 2 99 0 0", "claim 2 99 1 1", "state -1", "days 40", "fire 1"};
        for (String c : changes) d.call(name(c), numbers(c));
        d.law("age 1;").due(1, "look", 8).due(5, "look", 1).due(4, "look", 2).fault(2, 6, "age 1/0;");
        d.due(1, "image", 0);
        Desk.same("what is seen behind the image", d.all(), before);
        d.due(1234, "look", 5).due(5, "look", 0).due(3, "look", 3).due(2, "look", 4).due(2, "look", 6).due(0, "look", 8);
        // The claims are those that were: paper 1 by reader 0 alone, and paper 0 as it stands.
        d.due(1, "fewest", 0).due(0, "fewest", 11).due(NONE, "fewest", 10);
        // From it all goes on: numbers, lines, draws.
        d.due(4, "reader", 1, 2, 0, 0).due(0, "who", 4, 4).due(3, "paper", 2).due(0, "of", 3, 4).due(NONE, "of", 3, 2)
            .due(NONE, "of", 3, 6).due(5, "of", 3, 5).due(2, "claim", 0, 9, 0, 9);
        d.due(20, "read", 0, 0).due(4, "look", 3).due(0, "book", 3, 0);
    }

    private static void bookGoesBack() {
        for (int lines : new int[] {1, 10, 26, 120}) {
            Desk d = new Desk().papers(0, 0).aged(9, 0).aged(8, 1);
            for (int i = 0; i < lines; i++) d.due(9, "read", 0, 0);
            int undone = Math.min(10, lines);
            d.due(1, "image", 1);
            for (int i = 0; i < undone; i++) d.due(1, "undo");
            for (int i = 0; i < undone; i++) d.due(8, "read", 1, 1);
            d.due(lines, "look", 3).due(1, "book", lines - 1, 1).due(undone, "leaps", 1, 0, 0).due(1, "image", 0)
                .due(lines, "look", 3);
            for (int i = lines - undone; i < lines; i++) d.due(0, "book", i, 0).due(0, "book", i, 1)
                .due(i == 0 ? 0 : 9, "book", i, 3).due(9, "book", i, 4);
            d.due(0, "leaps", 1, 0, 0).due(lines, "leaps", 0, 0, 0).due(lines, "of", 0, 4).due(0, "of", 1, 4);
        }
    }

    private static void tapeAndFaultStay() {
        Desk d = new Desk().papers(0).put("age 5;").due(1, "image", 1).put("age 6;").due(1, "image", 0).due(0, "end", 7)
            .due(1, "end", 6).due(1, "text").due(6, "age", 0, 0);
        d.due(1, "image", 0).due(0, "look", 6).due(0, "end", 1).fault(2, 6, "age 1/0;").due(1, "image", 0).due(2, "fault", 0)
            .due(6, "fault", 1);
        d.due(1, "image", 1).law("age 6;").due(1, "image", 0).due(0, "fault", 0).due(NONE, "fault", 1).due(0, "look", 6);
    }

    private static void nothingUndoneThen() {
        Desk d = new Desk().papers(0).aged(9, 0).due(9, "read", 0, 0).due(9, "read", 0, 0).due(1, "image", 1)
            .due(2, "look", 7).due(1, "undo").due(1, "image", 0);
        d.due(0, "look", 7).due(0, "undo").due(2, "of", 0, 4).due(2, "look", 3).due(9, "read", 0, 0).due(1, "look", 7)
            .due(1, "image", 0).due(0, "look", 7).due(0, "undo").due(2, "of", 0, 4);
    }

    private static void moreThanOnce() {
        Desk d = new Desk().papers(0).aged(9, 0).at(3);
        d.due(1, "image", 1);
        for (int i = 0; i < 20; i++) {
            d.due(9, "read", 0, 0).due(1, "move", 0, 1 + i % 4).due(0, "days", 1 + i).papers(2).due(2, "look", 2)
                .due(1, "image", 0);
            d.due(3, "look", 0).due(1, "look", 2).due(0, "of", 0, 0).due(0, "of", 0, 4).due(0, "look", 3);
        }
    }

    private static void latestImage() {
        Desk d = new Desk().due(1, "image", 1).at(2).due(1, "image", 1).at(5).due(1, "image", 0).due(2, "look", 0).at(9)
            .due(1, "image", 0).due(2, "look", 0).due(1, "image", 1);
        d.at(4).due(1, "image", 0).due(2, "look", 0);
        // What is done behind it does not change the image, nor does an undone reading.
        d.papers(0).aged(9, 0).due(9, "read", 0, 0).due(1, "image", 1).due(1, "undo").due(0, "of", 0, 4).due(1, "image", 0)
            .due(1, "of", 0, 4).due(1, "look", 3);
    }

    private static void emptyAndFull() {
        Desk d = new Desk().due(1, "image", 1);
        d.papers(0, 1).aged(9, 1).law("age 5;").due(1, "set", 0, 2, 7).due(1, "lease", 1, 0).due(5, "read", 1, 0)
            .due(0, "claim", 0, 0, 0, 0).due(1, "image", 0);
        for (int what = 0; what <= 8; what++) d.due(0, "look", what);
        d.due(NONE - 1, "of", 0, 0).due(NONE - 99999, "who", 0, 0).due(NONE, "book", 0, 0).due(0, "fewest", 0)
            .due(NONE, "next").due(NONE, "close");
        d.papers(2, 3).due(NONE, "of", 1, 6).due(NONE, "of", 1, 2).due(0, "of", 1, 4).aged(8, 0).due(0, "who", 0, 4)
            .due(0, "age", 1, 0);
        // All that there may be.
        d = new Desk();
        for (int i = 0; i < 12; i++) d.papers(i % 5).aged(i + 1, i % 4).due(1, "lease", i, i).due(1, "set", i, 2, i);
        for (int i = 0; i < 6; i++) d.due(i, "claim", i, i, i, 999 - i);
        String law = "";
        for (int i = 0; i < 16; i++) law += "age 1 when paper = " + (i + 1) % 16 + ";";
        d.law(16, law);
        for (int i = 0; i < 120; i++) d.call("read", i % 12, (i + 5) % 12);
        d.due(1, "image", 1).law("age 7;").due(1, "swap", 0, 1).due(3, "fire", 1).due(1, "lease", 11, NONE).due(0, "days", 1)
            .due(1, "image", 0);
        int[] looks = {0, 12, 12, 120, 6, 0, 16, 0, 0};
        for (int what = 0; what <= 8; what++) d.due(looks[what], "look", what);
        for (int i = 0; i < 12; i++) {
            d.due(i % 5, "of", i, 0).due((i + 5) % 12, "of", i, 2).due(10, "of", i, 4).due(i, "of", i, 6).due(i, "who", i, 4)
                .due(i % 4, "who", i, 3).due(1, "age", i, 0);
        }
        d.due(11, "book", 119, 0).due(4, "book", 119, 1);
    }

    private static void look() {
        Desk d = busy();
        int[] want = {5, 4, 3, 3, 2, 1234, 2, 2, 0};
        for (int what = 0; what <= 8; what++) d.due(want[what], "look", what);
        for (int what : new int[] {LEAST, -2, -1, 9, 10, MOST}) d.due(NONE, "look", what);
        for (int v : new int[] {LEAST, -1, 0, MOST}) {
            d.call("state", v);
            d.due(v, "look", 5);
        }
    }
}

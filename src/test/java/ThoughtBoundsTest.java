import java.util.List;

/** The boundaries of the book and of all that is asked in thought (promises 17 to 26). */
public final class ThoughtBoundsTest {
    private static final int NONE = Desk.NONE;
    private static final int LEAST = Desk.LEAST;
    private static final int MOST = Desk.MOST;

    public static void main(String[] args) {
        Desk.sentence("THE BOOK (120 lines; no more then)", ThoughtBoundsTest::fullBook);
        Desk.sentence("PAPER, READER, DAY, AGE ahead of it, AGE behind it (both on that DAY)", ThoughtBoundsTest::bookLine);
        Desk.sentence("19 NONE if there is none such, or another what", ThoughtBoundsTest::noBookLine);
        Desk.sentence("20 CLAIMS 0 .. 5 as they come; NONE if there are six", ThoughtBoundsTest::sixClaims);
        Desk.sentence("20 a DAY (not below today, 9999 at most)", ThoughtBoundsTest::claimDays);
        Desk.sentence("20 to below from, from 0 at least, to 999 at most", ThoughtBoundsTest::claimAges);
        Desk.sentence("20 a PAPER: NONE if one can't be", ThoughtBoundsTest::claimPapers);
        Desk.sentence("21 each CLAIM stands: AGE from .. to", ThoughtBoundsTest::claimStands);
        Desk.sentence("21 on the CLAIM's DAY", ThoughtBoundsTest::claimOnItsDay);
        Desk.sentence("21 READERS who LIVE today", ThoughtBoundsTest::livingReadersAlone);
        Desk.sentence("21 the least set (fewest, ..)", ThoughtBoundsTest::fewestReaders);
        Desk.sentence("21 the least set (.. then as a number)", ThoughtBoundsTest::leastNumber);
        Desk.sentence("21 or (if it stands so) not at all", ThoughtBoundsTest::nobodyReads);
        Desk.sentence("21 two CLAIMS of one PAPER by the same one, or none", ThoughtBoundsTest::twoClaims);
        Desk.sentence("21 who reads a PAPER (none first, then the least)", ThoughtBoundsTest::leastOfTheSet);
        Desk.sentence("21 10 + p (NONE: nobody, or it is in no CLAIM)", ThoughtBoundsTest::papersAsked);
        Desk.sentence("21 NONE if there is none", ThoughtBoundsTest::noSet);
        Desk.sentence("21 NONE if a CLAIM's DAY went by", ThoughtBoundsTest::dayWentBy);
        Desk.sentence("21 NONE for another what", ThoughtBoundsTest::fewestOtherWhat);
        Desk.sentence("22 DAY 0 .. today, today less 99 at least", ThoughtBoundsTest::thumbDays);
        Desk.sentence("22 not below WRITTEN", ThoughtBoundsTest::thumbNotBeforeWritten);
        Desk.sentence("22 he LIVED on that DAY", ThoughtBoundsTest::thumbLived);
        Desk.sentence("22 (READ one more than now) would be just so old today", ThoughtBoundsTest::thumbReading);
        Desk.sentence("21, 22 the PAPER, READ by him, is else as it is", ThoughtBoundsTest::factsInThought);
        Desk.sentence("22 an AGE 0 .. 999", ThoughtBoundsTest::thumbAges);
        Desk.sentence("22 the first (READER, then DAY) (NONE)", ThoughtBoundsTest::firstThumb);
        Desk.sentence("22 NONE if one can't be, or another what", ThoughtBoundsTest::noThumbs);
        Desk.sentence("17 STAYS: from today on (today, too; 400 at most)", ThoughtBoundsTest::stays);
        Desk.sentence("17 STAYS: 400 at most, on the last DAYS too", ThoughtBoundsTest::staysAtTheEnd);
        Desk.sentence("23 whose AGES differ by n at least", ThoughtBoundsTest::leapSizes);
        Desk.sentence("23 whose READER is of that KIND: how many; the first (NONE)", ThoughtBoundsTest::leapKinds);
        Desk.sentence("23 NONE if one can't be (n 0 .. 999), or another what", ThoughtBoundsTest::noLeaps);
        Desk.sentence("25 CLOSE: the SHELF with PAPERS whose AGES today, added, are greatest", ThoughtBoundsTest::close);
        Desk.sentence("25 of several the least; NONE without PAPERS", ThoughtBoundsTest::closeEven);
        Desk.sentence("26 MEAN AGE (Quotients go downwards)", ThoughtBoundsTest::mean);
        Desk.sentence("26 NONE without PAPERS there, or if one can't be", ThoughtBoundsTest::noMean);
        Desk.sentence("IN THOUGHT (nothing of it stays, no DRAWS)", ThoughtBoundsTest::nothingStays);
        Desk.finish();
    }

    private static void fullBook() {
        Desk d = new Desk().papers(0, 1).aged(1, 0).aged(2, 0);
        for (int i = 0; i < 120; i++) d.due(i, "look", 3).due(1, "read", 0, 0);
        d.due(120, "look", 3).due(0, "book", 119, 1).due(NONE, "book", 120, 0);
        // The reading itself is done, and the last line stays as it was.
        d.due(2, "read", 0, 1).due(120, "look", 3).due(0, "book", 119, 1).due(NONE, "book", 120, 0).due(121, "of", 0, 4)
            .due(1, "of", 0, 2);
        d.due(2, "read", 1, 1).due(120, "look", 3).due(120, "leaps", 0, 0, 0).due(0, "leaps", 0, 0, 1);
        int[] last = {0, 0, 0, 1, 1};
        for (int what = 0; what < 5; what++) d.due(last[what], "book", 119, what);
    }

    private static void bookLine() {
        Desk d = new Desk().papers(0, 1).aged(20, 0).aged(30, 2).law("age then + dust + read*100;");
        d.at(5).due(120, "read", 1, 0).at(9).due(230, "read", 1, 1).due(330, "read", 1, 1).due(120, "read", 0, 0);
        int[][] want = {{1, 0, 5, 5, 120}, {1, 1, 9, 124, 230}, {1, 1, 9, 230, 330}, {0, 0, 9, 9, 120}};
        for (int i = 0; i < 4; i++) for (int what = 0; what < 5; what++) d.due(want[i][what], "book", i, what);
        // Lines stay as they were written, whatever comes.
        d.law("age 7;").due(1, "move", 0, 1).due(2, "fire", 1).at(50);
        for (int i = 0; i < 4; i++) for (int what = 0; what < 5; what++) d.due(want[i][what], "book", i, what);
        // Ages in it are held, too.
        d.law(2, "age 1000 when read = 0; age 0-1;").due(0, "read", 0, 0).due(999, "book", 4, 3).due(0, "book", 4, 4);
    }

    private static void noBookLine() {
        Desk d = new Desk().papers(0).aged(1, 0);
        for (int what = -1; what <= 5; what++) d.due(NONE, "book", 0, what).due(NONE, "book", -1, what);
        d.due(1, "read", 0, 0).due(1, "read", 0, 0).due(1, "book", 1, 4);
        for (int i : new int[] {LEAST, -1, 2, 3, 119, 120, MOST}) for (int what = 0; what < 5; what++) d.due(NONE, "book",
            i, what);
        for (int what : new int[] {LEAST, -1, 5, 6, MOST}) d.due(NONE, "book", 0, what).due(NONE, "book", 1, what);
    }

    private static void sixClaims() {
        Desk d = new Desk().papers(0);
        for (int i = 0; i < 6; i++) d.due(i, "look", 4).due(i, "claim", 0, i, 0, 999);
        d.due(6, "look", 4).due(NONE, "claim", 0, 0, 0, 999).due(6, "look", 4).due(0, "fewest", 0);
        // The sixth counts as the others do.
        d = new Desk().papers(0);
        for (int i = 0; i < 5; i++) d.due(i, "claim", 0, 0, 0, 999);
        d.due(0, "fewest", 0).due(5, "claim", 0, 0, 1, 1).due(NONE, "fewest", 0);
    }

    private static void claimDays() {
        for (int today : new int[] {0, 1, 77, 9998, 9999}) {
            Desk d = new Desk().papers(0).at(today);
            d.due(NONE, "claim", 0, today - 1, 0, 0).due(NONE, "claim", 0, 10000, 0, 0).due(NONE, "claim", 0, LEAST, 0, 0)
                .due(NONE, "claim", 0, MOST, 0, 0);
            d.due(0, "look", 4).due(0, "claim", 0, today, 0, 0).due(1, "claim", 0, 9999, 0, 0);
            if (today < 9999) d.due(2, "claim", 0, today + 1, 0, 0).due(3, "claim", 0, 9998, 0, 0);
        }
    }

    private static void claimAges() {
        int[][] good = {{0, 0}, {0, 1}, {0, 998}, {0, 999}, {1, 999}, {998, 999}, {999, 999}, {500, 500}, {500, 501}};
        for (int[] g : good) new Desk().papers(0).due(0, "claim", 0, 0, g[0], g[1]).due(1, "look", 4);
        int[][] bad = {{-1, 0}, {-1, -1}, {-2, 5}, {0, 1000}, {999, 1000}, {1000, 1000}, {1000, 999}, {1, 0}, {500, 499},
            {999, 998}, {999, 0},
            {0, -1}, {LEAST, 0}, {LEAST, MOST}, {0, MOST}, {0, LEAST}, {MOST, MOST}, {MOST, LEAST}};
        for (int[] b : bad) new Desk().papers(0).due(NONE, "claim", 0, 0, b[0], b[1]).due(0, "look", 4);
    }

    private static void claimPapers() {
        Desk d = new Desk();
        d.due(NONE, "claim", 0, 0, 0, 999);
        for (int p = 0; p < 12; p++) d.papers(0);
        for (int p : new int[] {LEAST, -1, 12, MOST}) d.due(NONE, "claim", p, 0, 0, 999);
        d.due(0, "claim", 0, 0, 0, 999).due(1, "claim", 11, 0, 0, 999);
        d = new Desk().papers(0);
        d.due(NONE, "claim", 1, 0, 0, 999).due(0, "claim", 0, 0, 0, 999);
    }

    private static void claimStands() {
        // A paper of age 50 today, and one reader who would make it 60.
        int[][] tries = {{50, 50, 0}, {49, 51, 0}, {50, 60, 0}, {51, 59, NONE}, {51, 60, 1}, {60, 60, 1}, {60, 61, 1}, {61,
            61, NONE}, {40, 49, NONE}, {40, 50, 0},
            {0, 999, 0}, {61, 999, NONE}, {0, 49, NONE}};
        for (int[] t : tries) {
            Desk d = new Desk().papers(0).aged(60, 0).law(2, "age 50 when read = 0; age then;");
            d.due(0, "claim", 0, 0, t[0], t[1]).due(t[2], "fewest", 0).due(t[2] == 1 ? 0 : NONE, "fewest", 10);
        }
        for (int[] t : new int[][] {{0, 0, 0}, {1, 1, NONE}}) new Desk().papers(0).due(0, "claim", 0, 0, t[0], t[1])
            .due(t[2], "fewest", 0);
        new Desk().papers(0).law("age 999;").due(0, "claim", 0, 0, 999, 999).due(0, "fewest", 0);
        new Desk().papers(0).law("age 998;").due(0, "claim", 0, 0, 999, 999).due(NONE, "fewest", 0);
    }

    private static void claimOnItsDay() {
        Desk d = new Desk().papers(0).aged(7, 0).law("age dust;").at(5);
        // Unread it is 5 today and 15 on day 15; read today it is 10 then.
        d.call("image", 1);
        d.due(0, "claim", 0, 15, 15, 15).due(0, "fewest", 0).due(1, "image", 0);
        d.due(0, "claim", 0, 15, 10, 10).due(1, "fewest", 0).due(1, "image", 0);
        d.due(0, "claim", 0, 15, 11, 14).due(NONE, "fewest", 0).due(1, "image", 0);
        d.due(0, "claim", 0, 5, 0, 0).due(1, "fewest", 0).due(1, "image", 0);
        d.due(0, "claim", 0, 9999, 999, 999).due(0, "fewest", 0).due(1, "image", 0);
        // The reading counts one more, and the years are those of today.
        d.law("age read;").due(0, "claim", 0, 9999, 1, 1).due(1, "fewest", 0).due(1, "image", 0);
        d.law("age then;").due(0, "claim", 0, 9999, 7, 7).due(1, "fewest", 0).due(1, "image", 0);
        d.law("age now;").due(0, "claim", 0, 9999, 34, 34).due(1, "fewest", 0);
    }

    private static void livingReadersAlone() {
        int[][] readers = {{6, NONE, 0}, {5, NONE, 1}, {4, NONE, 1}, {0, 4, 0}, {0, 5, 0}, {0, 6, 1}, {0, NONE, 1}};
        for (int[] r : readers) {
            Desk d = new Desk().papers(0);
            d.call("reader", r[0], r[1], 0, 0);
            d.at(5).law("age read;").due(0, "claim", 0, 5, 1, 1).due(r[2] == 1 ? 1 : NONE, "fewest", 0)
                .due(r[2] == 1 ? 0 : NONE, "fewest", 10);
        }
    }

    /** Six papers, and readers of so many years; the law tells who makes a paper 1, which claims want. */
    private static Desk six(String law, int... years) {
        Desk d = new Desk().papers(0, 0, 0, 0, 0, 0);
        for (int y : years) d.aged(y, 0);
        d.law((int) law.chars().filter(c -> c == ';').count(), law);
        return d;
    }

    private static void fewestReaders() {
        // Readers are told apart by their years; each paper wants those of certain years.
        String each = "age 1 when then = paper + 1; age 0;";
        Desk d = six(each, 1, 2, 3, 4, 5, 6);
        int set = 0;
        for (int p = 0; p < 6; p++) {
            set |= 1 << p;
            d.due(p, "claim", p, 0, 1, 1).due(set, "fewest", 0);
        }
        for (int p = 0; p < 6; p++) d.due(p, "fewest", 10 + p);
        // One of a high number does for both, where two of low ones would be needed.
        d = six("age 1 when then = paper + 1; age 1 when then = 9; age 0;", 1, 2, 9);
        d.due(0, "claim", 0, 0, 1, 1).due(1, "fewest", 0).due(1, "claim", 1, 0, 1, 1).due(4, "fewest", 0)
            .due(2, "fewest", 10).due(2, "fewest", 11);
        // The twelfth reader has bit 2048.
        d = six("age 1 when then = 9; age 0;", 1, 1, 1, 1, 1, 1, 1, 1, 1, 1, 1, 9);
        d.due(0, "claim", 5, 0, 1, 1).due(2048, "fewest", 0).due(11, "fewest", 15);
        // Twelve readers, each paper by one of the last six.
        d = six("age 1 when then = paper + 7; age 0;", 1, 2, 3, 4, 5, 6, 7, 8, 9, 10, 11, 12);
        for (int p = 0; p < 6; p++) d.due(p, "claim", p, 0, 1, 1);
        d.due(4032, "fewest", 0).due(11, "fewest", 15).due(6, "fewest", 10);
    }

    private static void leastNumber() {
        // One reader of several alike.
        Desk d = six("age 1 when then = 9; age 0;", 1, 9, 9, 9);
        d.due(0, "claim", 0, 0, 1, 1).due(2, "fewest", 0).due(1, "fewest", 10);
        // Paper 0 by reader 0 or 1, paper 1 by 2 or 3: the least of four sets of two.
        d = six("age 1 when paper = 0 and (then = 1 or then = 2); age 1 when paper = 1 and (then = 3 or then = 4); age 0;",
            1, 2, 3, 4);
        d.due(0, "claim", 0, 0, 1, 1).due(1, "claim", 1, 0, 1, 1).due(5, "fewest", 0).due(0, "fewest", 10)
            .due(2, "fewest", 11);
        d = six("age 1 when paper = 0 and (then = 1 or then = 2); age 1 when paper = 1 and (then = 4 or then = 3);"
            + "age 1 when paper = 2 and (then = 2 or then = 4); age 0;", 1, 2, 3, 4);
        // Two are needed: {1, 2} is 6, {0, 3} is 9, {1, 3} is 10.
        for (int p = 0; p < 3; p++) d.due(p, "claim", p, 0, 1, 1);
        d.due(6, "fewest", 0).due(1, "fewest", 10).due(2, "fewest", 11).due(1, "fewest", 12);
    }

    private static void nobodyReads() {
        // Both nobody and a reader would do: nobody, and the set is empty.
        Desk d = six("age 1;", 1);
        d.due(0, "claim", 0, 0, 1, 1).due(0, "fewest", 0).due(NONE, "fewest", 10);
        // One stands so, the other is read: nobody reads the first though the set has one.
        d = six("age 1 when paper = 0; age read;", 1);
        d.due(0, "claim", 0, 0, 1, 1).due(1, "claim", 1, 0, 1, 1).due(1, "fewest", 0).due(NONE, "fewest", 10)
            .due(0, "fewest", 11);
        // Without any claim, and without any reader.
        six("age 1;", 1).due(0, "fewest", 0).due(NONE, "fewest", 10);
        new Desk().due(0, "fewest", 0).due(NONE, "fewest", 10);
        new Desk().papers(0).due(0, "claim", 0, 0, 0, 0).due(0, "fewest", 0);
    }

    private static void twoClaims() {
        // Today by the first or none, later by the second: no one does for both.
        Desk d = six("age 1 when then = 1 and dust = 0; age 1 when then = 2 and dust = 1; age 0;", 1, 2);
        d.due(0, "claim", 0, 0, 1, 1).due(1, "fewest", 0).due(1, "claim", 0, 1, 1, 1).due(NONE, "fewest", 0)
            .due(NONE, "fewest", 10);
        // A third does.
        d.call("image", 1);
        d.aged(3, 0).law(2, "age 1 when then > 0 and dust < 2; age 0;").due(1, "fewest", 0).law(4,
            "age 1 when then = 1 and dust = 0; age 1 when then = 2 and dust = 1; age 1 when then = 3; age 0;")
                .due(4, "fewest", 0).due(2, "fewest", 10);
        // One stands unread, the other read: not both.
        d = six("age dust;", 1, 2).at(3);
        d.due(0, "claim", 0, 3, 3, 3).due(0, "fewest", 0).due(1, "claim", 0, 4, 1, 1).due(NONE, "fewest", 0);
        d = six("age dust;", 1, 2).at(3);
        d.due(0, "claim", 0, 3, 3, 3).due(1, "claim", 1, 4, 1, 1).due(1, "fewest", 0).due(NONE, "fewest", 10)
            .due(0, "fewest", 11);
    }

    private static void leastOfTheSet() {
        // Readers 0 and 2 are needed; paper 2 may be read by 1, 2 or 0: the least of the set.
        Desk d = six("age 1 when paper = 0 and then = 1; age 1 when paper = 1 and then = 3; age 1 when paper = 2 and then > 0;"
            + "age 1 when paper = 3 and then > 1; age 0;", 1, 2, 3);
        for (int p = 0; p < 4; p++) d.due(p, "claim", p, 0, 1, 1);
        d.due(5, "fewest", 0).due(0, "fewest", 10).due(2, "fewest", 11).due(0, "fewest", 12).due(2, "fewest", 13);
    }

    private static void papersAsked() {
        Desk d = new Desk();
        for (int p = 0; p < 12; p++) d.papers(0);
        d.aged(1, 0).law("age read;").due(0, "claim", 0, 0, 1, 1).due(1, "claim", 11, 0, 1, 1).due(2, "claim", 5, 0, 0, 0);
        for (int p = 0; p < 12; p++) d.due(p == 0 || p == 11 ? 0 : NONE, "fewest", 10 + p);
        // Papers that are not there.
        d = new Desk().papers(0).aged(1, 0).law("age read;").due(0, "claim", 0, 0, 1, 1);
        for (int p = 0; p < 12; p++) d.due(p == 0 ? 0 : NONE, "fewest", 10 + p);
    }

    private static void noSet() {
        Desk d = new Desk().papers(0, 0).aged(1, 0);
        d.due(0, "claim", 0, 0, 1, 1).due(1, "fewest", 0).due(1, "claim", 1, 0, 2, 2).due(NONE, "fewest", 0)
            .due(NONE, "fewest", 10).due(NONE, "fewest", 11);
        // There is one as soon as another reader comes.
        d.aged(2, 0).due(3, "fewest", 0).due(0, "fewest", 10).due(1, "fewest", 11);
    }

    private static void dayWentBy() {
        Desk d = new Desk().papers(0).due(0, "claim", 0, 5, 0, 0).due(1, "claim", 0, 9, 0, 0);
        d.at(4).due(0, "fewest", 0).at(5).due(0, "fewest", 0).at(6).due(NONE, "fewest", 0).due(NONE, "fewest", 10)
            .due(2, "look", 4);
        // Also if it is the later one of them.
        d = new Desk().papers(0).due(0, "claim", 0, 9, 0, 0).due(1, "claim", 0, 5, 0, 0).at(6).due(NONE, "fewest", 0);
        // A day that went by is not asked whether it stood.
        d = new Desk().papers(0).aged(1, 0).due(0, "claim", 0, 0, 1, 1).due(1, "fewest", 0).due(0, "fewest", 10).at(1)
            .due(NONE, "fewest", 0).due(NONE, "fewest", 10);
    }

    private static void fewestOtherWhat() {
        Desk d = new Desk();
        for (int p = 0; p < 12; p++) d.papers(0);
        d.aged(1, 0).law("age read;");
        for (int p : new int[] {0, 1, 2, 9, 10, 11}) d.call("claim", p, 0, 1, 1);
        d.due(1, "fewest", 0).due(0, "fewest", 10).due(0, "fewest", 21);
        for (int what : new int[] {LEAST, -10, -2, -1, 1, 2, 8, 9, 22, 23, MOST}) d.due(NONE, "fewest", what);
    }

    private static void thumbDays() {
        int[][] tries = {{0, 0, 1, 0}, {0, 1, 0, NONE}, {98, 98, 1, 0}, {98, 99, 0, NONE}, {99, 99, 1, 0}, {99, 98, 1, 1},
            {99, 100, 0, NONE},
            {100, 99, 1, 1}, {100, 98, 1, 2}, {100, 100, 0, NONE}, {101, 99, 1, 2}, {101, 100, 0, NONE}, {500, 0, 1, 500},
                {500, 1, 1, 499},
            {500, 99, 1, 401}, {500, 100, 0, NONE}, {500, 500, 0, NONE}, {9999, 99, 1, 9900}, {9999, 100, 0, NONE}, {9999,
                0, 1, 9999}};
        for (int[] t : tries) {
            Desk d = new Desk().papers(0).aged(1, 0).law("age dust;").at(t[0]);
            d.due(t[2], "thumbs", 0, t[1], 0).due(t[2] == 1 ? 0 : NONE, "thumbs", 0, t[1], 1)
                .due(t[3], "thumbs", 0, t[1], 2);
        }
        Desk d = new Desk().papers(0).aged(1, 0).law("age 7;");
        int[][] many = {{0, 1, 0}, {1, 2, 0}, {98, 99, 0}, {99, 100, 0}, {100, 100, 1}, {101, 100, 2}, {9999, 100, 9900}};
        for (int[] m : many) d.at(m[0]).due(m[1], "thumbs", 0, 7, 0).due(m[2], "thumbs", 0, 7, 2);
    }

    private static void thumbNotBeforeWritten() {
        Desk d = new Desk().aged(1, 0).law("age dust;").at(50).papers(0).at(51).papers(0).at(60);
        d.due(1, "thumbs", 0, 10, 0).due(50, "thumbs", 0, 10, 2).due(0, "thumbs", 0, 11, 0).due(0, "thumbs", 1, 10, 0)
            .due(1, "thumbs", 1, 9, 0).due(51, "thumbs", 1, 9, 2);
        d.law("age 7;").due(11, "thumbs", 0, 7, 0).due(10, "thumbs", 1, 7, 0).at(149).due(100, "thumbs", 0, 7, 0)
            .due(50, "thumbs", 0, 7, 2);
        d.at(150).due(100, "thumbs", 0, 7, 0).due(51, "thumbs", 0, 7, 2).due(100, "thumbs", 1, 7, 0).papers(0)
            .due(1, "thumbs", 2, 7, 0).due(150, "thumbs", 2, 7, 2);
        // A fire does not write it anew, and a reading does not hinder days ahead of it.
        d = new Desk().aged(1, 0).papers(0).law("age 7;").at(5).due(1, "fire", 0).due(6, "thumbs", 0, 7, 0)
            .due(7, "read", 0, 0).due(6, "thumbs", 0, 7, 0);
    }

    private static void thumbLived() {
        Desk d = new Desk().papers(0).law("age dust;");
        d.call("reader", 20, 30, 0, 0);
        d.at(40);
        int[][] tries = {{22, 0}, {21, 0}, {20, 1}, {19, 1}, {12, 1}, {11, 1}, {10, 0}, {9, 0}, {0, 0}};
        for (int[] t : tries) d.due(t[1], "thumbs", 0, t[0], 0).due(t[1] == 1 ? 40 - t[0] : NONE, "thumbs", 0, t[0], 2);
        d.law("age 7;").due(10, "thumbs", 0, 7, 0).due(20, "thumbs", 0, 7, 2);
        // One who dies today, one born today, one who never lived.
        d = new Desk().papers(0).law("age 7;").at(3);
        d.call("reader", 0, 3, 0, 0);
        d.due(3, "thumbs", 0, 7, 0);
        d.call("reader", 3, NONE, 0, 0);
        d.due(4, "thumbs", 0, 7, 0);
        d.call("reader", 4, NONE, 0, 0);
        d.call("reader", 2, 2, 0, 0);
        d.due(4, "thumbs", 0, 7, 0);
    }

    private static void thumbReading() {
        Desk d = new Desk().papers(0).at(10);
        d.call("reader", -360, NONE, 0, 2);
        // Then are his years on that day: he had his first birthday on day 5.
        d.due(5, "thumbs", 0, 0, 0).due(0, "thumbs", 0, 0, 2).due(6, "thumbs", 0, 1, 0).due(5, "thumbs", 0, 1, 2)
            .due(0, "thumbs", 0, 2, 0);
        // Now, alive and own are those of today.
        d.law("age now;").due(11, "thumbs", 0, 1, 0).due(0, "thumbs", 0, 0, 0).law("age kind;").due(11, "thumbs", 0, 2, 0);
        d.call("set", 0, 0, 10);
        d.law("age alive;").due(10, "thumbs", 0, 0, 0).due(0, "thumbs", 0, 1, 0);
        d.call("set", 0, 0, 11);
        d.due(11, "thumbs", 0, 1, 0);
        // Read is one more than now.
        d.law("age read;").due(0, "thumbs", 0, 0, 0).due(11, "thumbs", 0, 1, 0).due(0, "thumbs", 0, 2, 0)
            .due(1, "read", 0, 0).due(2, "read", 0, 0);
        d.due(0, "thumbs", 0, 2, 0).due(11, "thumbs", 0, 3, 0).due(0, "thumbs", 0, 4, 0).due(2, "of", 0, 4);
        d.law("age own;").due(1, "set", 0, 0, NONE).at(365).due(100, "thumbs", 0, 1, 0).law("age shelf + paper;")
            .due(100, "thumbs", 0, 0, 0);
    }

    private static void factsInThought() {
        // Papers 0 and 1 differ in all that a reading leaves as it is; one thought comes behind another.
        Desk d = new Desk().papers(1).aged(20, 1).aged(30, 2).at(400).papers(4).at(800);
        String[] facts = {"own", "shelf", "paper"};
        int[][] want = {{2, 1}, {1, 4}, {0, 1}};
        for (int f = 0; f < 3; f++) {
            d.law("age " + facts[f] + " + read * 10;");
            for (int p : new int[] {0, 1, 0}) d.due(200, "thumbs", p, 10 + want[f][p], 0)
                .due(0, "thumbs", p, 11 + want[f][p], 0).due(0, "thumbs", p, 10 + want[f][1 - p], 0);
            d.call("image", 1);
            for (int p = 0; p < 2; p++) d.due(p, "claim", p, 800, 10 + want[f][p], 10 + want[f][p]);
            d.due(1, "fewest", 0).due(0, "fewest", 10).due(0, "fewest", 11).due(1, "image", 0);
        }
        // What a reading changes is the reader's: kind, then, now, alive, dust.
        // Both had a birthday on day 730, and days 701 .. 800 are asked.
        d.law("age kind * 100 + then + alive;").due(71, "thumbs", 0, 123, 0).due(0, "thumbs", 0, 123, 1)
            .due(730, "thumbs", 0, 123, 2).due(29, "thumbs", 0, 122, 0);
        d.due(71, "thumbs", 1, 233, 0).due(1, "thumbs", 1, 233, 1).due(29, "thumbs", 1, 232, 0)
            .due(701, "thumbs", 1, 232, 2);
        d.due(0, "claim", 0, 900, 233, 233).due(1, "claim", 1, 900, 123, 123).due(3, "fewest", 0).due(1, "fewest", 10)
            .due(0, "fewest", 11);
    }

    private static void thumbAges() {
        int[][] tries = {{0, 1}, {1, 0}, {998, 0}, {999, 0}};
        for (int[] t : tries) new Desk().papers(0).aged(0, 0).due(t[1], "thumbs", 0, t[0], 0);
        new Desk().papers(0).aged(0, 0).law("age 999;").due(1, "thumbs", 0, 999, 0).due(0, "thumbs", 0, 998, 0)
            .due(NONE, "thumbs", 0, 1000, 0);
        new Desk().papers(0).aged(0, 0).law("age 1000;").due(1, "thumbs", 0, 999, 0).due(NONE, "thumbs", 0, 1000, 0);
        new Desk().papers(0).aged(0, 0).law("age 0-1;").due(1, "thumbs", 0, 0, 0).due(NONE, "thumbs", 0, -1, 0);
        for (int a : new int[] {LEAST, -2, -1, 1000, 1001, MOST}) {
            for (int what = 0; what < 3; what++) new Desk().papers(0).aged(0, 0).due(NONE, "thumbs", 0, a, what);
        }
    }

    private static void firstThumb() {
        Desk d = new Desk().papers(0).aged(1, 0).aged(1, 1).aged(1, 2).at(9);
        d.law(4, "age 5 when kind = 1 and dust = 0; age 5 when kind = 2 and dust = 9; age 5 when kind = 1 and dust = 3; age 6;");
        d.due(3, "thumbs", 0, 5, 0).due(1, "thumbs", 0, 5, 1).due(6, "thumbs", 0, 5, 2);
        d.due(27, "thumbs", 0, 6, 0).due(0, "thumbs", 0, 6, 1).due(0, "thumbs", 0, 6, 2);
        d.due(0, "thumbs", 0, 7, 0).due(NONE, "thumbs", 0, 7, 1).due(NONE, "thumbs", 0, 7, 2);
        // Twelve readers on a hundred days.
        d = new Desk().papers(0).law("age 7;");
        for (int r = 0; r < 12; r++) d.aged(1, 0);
        d.at(200).due(1200, "thumbs", 0, 7, 0).law("age then;").due(1200, "thumbs", 0, 1, 0);
        // The last of them alone.
        d = new Desk().papers(0).law(2, "age 7 when kind = 3 and dust = 99; age 8;");
        for (int r = 0; r < 12; r++) d.aged(1, r == 11 ? 3 : 0);
        d.at(200).due(1, "thumbs", 0, 7, 0).due(11, "thumbs", 0, 7, 1).due(101, "thumbs", 0, 7, 2);
    }

    private static void noThumbs() {
        Desk d = new Desk().papers(0, 0);
        for (int what = 0; what < 3; what++) d.due(what == 0 ? 0 : NONE, "thumbs", 0, 0, what);
        d.aged(0, 0);
        for (int what : new int[] {LEAST, -1, 3, 4, MOST}) d.due(NONE, "thumbs", 0, 0, what);
        for (int p : new int[] {LEAST, -1, 2, 12, MOST}) for (int what = 0; what < 3; what++) d.due(NONE, "thumbs", p, 0,
            what);
        d.due(1, "thumbs", 1, 0, 0);
    }

    private static void stays() {
        Desk d = new Desk().papers(0).aged(1, 0).due(400, "of", 0, 7);
        int[][] parts = {{1, 1}, {2, 2}, {398, 398}, {399, 399}, {400, 400}, {401, 400}, {402, 400}, {9999, 400}};
        for (int[] p : parts) d.law("age dust/" + p[0] + ";").due(p[1], "of", 0, 7);
        // It changes on one day and is the same again behind it.
        d.law(2, "age 1 when dust = 1; age 0;").due(1, "of", 0, 7).law(2, "age 1 when dust = 399; age 0;")
            .due(399, "of", 0, 7);
        d.law(2, "age 1 when dust = 400; age 0;").due(400, "of", 0, 7).law(2, "age 1 when dust > 0; age 0;")
            .due(1, "of", 0, 7);
        // From today on: not from the reading on, nor from the day it was written.
        d.at(3).law("age dust/5;").due(2, "of", 0, 7).law("age dust/4;").due(1, "of", 0, 7).law("age dust/3;")
            .due(3, "of", 0, 7).law("age dust/403;").due(400, "of", 0, 7);
        d.law("age dust/402;").due(399, "of", 0, 7);
        // What is held at its greatest stays.
        d.law("age 999 + dust;").due(400, "of", 0, 7).law("age 995 + dust;").due(1, "of", 0, 7).law("age 0 - dust;")
            .due(400, "of", 0, 7);
        // Birthdays and deaths: today is the 3rd day, his next birthday day 365; he dies on day 9.
        d.law("age now;").due(1, "read", 0, 0).due(362, "of", 0, 7).law("age alive;").due(400, "of", 0, 7)
            .due(1, "set", 0, 0, 9).due(6, "of", 0, 7);
        d.due(1, "set", 0, 0, 4).due(1, "of", 0, 7).due(1, "set", 0, 0, 3).due(400, "of", 0, 7).due(1, "set", 0, 0, 402)
            .due(399, "of", 0, 7);
        d.due(1, "set", 0, 0, 403).due(400, "of", 0, 7);
        d.law("age own;").due(362, "of", 0, 7).at(364).due(1, "of", 0, 7).at(365).due(365, "of", 0, 7);
    }

    /** The document bounds it by 400 alone, so that days beyond the last one are counted. */
    private static void staysAtTheEnd() {
        Desk d = new Desk().papers(0).at(9599).due(400, "of", 0, 7).at(9600).due(400, "of", 0, 7).at(9601)
            .due(400, "of", 0, 7).at(9999).due(400, "of", 0, 7);
        d.due(1, "fire", 0).law("age dust/2;").due(2, "of", 0, 7).law("age dust/399;").due(399, "of", 0, 7);
    }

    private static void leapSizes() {
        // Readings by one of 90 years: from 0 to 90, from 90 to 90; then by one of 30: from 90 to 30.
        Desk d = new Desk().papers(0).aged(90, 0).aged(30, 1);
        d.due(90, "read", 0, 0).due(90, "read", 0, 0).due(30, "read", 0, 1);
        int[][] up = {{0, 2, 0}, {1, 1, 0}, {89, 1, 0}, {90, 1, 0}, {91, 0, NONE}, {999, 0, NONE}};
        for (int[] u : up) d.due(u[1], "leaps", 0, u[0], 0).due(u[2], "leaps", 0, u[0], 1);
        int[][] down = {{0, 1, 2}, {59, 1, 2}, {60, 1, 2}, {61, 0, NONE}};
        for (int[] u : down) d.due(u[1], "leaps", 1, u[0], 0).due(u[2], "leaps", 1, u[0], 1);
        // The greatest leap, both ways.
        d = new Desk().papers(0, 0).aged(1, 0).law(2, "age 0 when read = 1; age 999;");
        d.due(0, "read", 0, 0).due(999, "read", 0, 0).due(2, "leaps", 0, 999, 0).due(0, "leaps", 0, 999, 1)
            .due(2, "leaps", 0, 998, 0);
        d.law(2, "age 0 when read = 1; age 998;").due(0, "read", 1, 0).due(998, "read", 1, 0).due(2, "leaps", 0, 999, 0)
            .due(4, "leaps", 0, 998, 0);
    }

    private static void leapKinds() {
        Desk d = new Desk().papers(0);
        for (int k = 0; k < 4; k++) d.aged(10 * k + 10, k);
        for (int k = 0; k < 4; k++) d.due(0, "leaps", k, 0, 0).due(NONE, "leaps", k, 0, 1);
        int[] by = {3, 2, 2, 1, 3, 0, 0};
        for (int r : by) d.due(10 * r + 10, "read", 0, r);
        int[] many = {2, 1, 2, 2};
        int[] first = {5, 3, 1, 0};
        for (int k = 0; k < 4; k++) d.due(many[k], "leaps", k, 0, 0).due(first[k], "leaps", k, 0, 1);
        int[] leaping = {1, 1, 1, 2};
        for (int k = 0; k < 4; k++) d.due(leaping[k], "leaps", k, 1, 0).due(first[k], "leaps", k, 1, 1);
        // The 120th line counts, and a reading without a line does not.
        d = new Desk().papers(0).aged(10, 0).aged(20, 1);
        for (int i = 0; i < 119; i++) d.due(10, "read", 0, 0);
        d.due(0, "leaps", 1, 0, 0).due(20, "read", 0, 1).due(1, "leaps", 1, 10, 0).due(119, "leaps", 1, 10, 1)
            .due(20, "read", 0, 1).due(1, "leaps", 1, 0, 0);
        d.due(119, "leaps", 0, 0, 0).due(1, "leaps", 0, 1, 0);
    }

    private static void noLeaps() {
        Desk d = new Desk().papers(0).aged(10, 0);
        d.call("read", 0, 0);
        for (int what = 0; what < 2; what++) {
            for (int k : new int[] {LEAST, -1, 4, 5, MOST}) d.due(NONE, "leaps", k, 0, what);
            for (int n : new int[] {LEAST, -1, 1000, 1001, MOST}) d.due(NONE, "leaps", 0, n, what);
        }
        for (int what : new int[] {LEAST, -1, 2, 3, MOST}) d.due(NONE, "leaps", 0, 0, what);
        d.due(1, "leaps", 0, 0, 0).due(0, "leaps", 0, 999, 0).due(0, "leaps", 3, 0, 0);
    }

    private static void close() {
        // Sums, not means or counts; today, not later.
        Desk d = new Desk().papers(1, 1, 1, 3).law(2, "age 10 when shelf = 1; age 29;").due(1, "close")
            .law(2, "age 10 when shelf = 1; age 31;").due(3, "close");
        d.law(2, "age 10 when shelf = 1; age dust;").due(1, "close").at(31).due(3, "close");
        for (int s = 0; s < 5; s++) new Desk().papers(0, 1, 2, 3, 4).law(2, "age 1 when shelf = " + s + "; age 0;")
            .due(s, "close");
        // The greatest sum there may be, against eleven of them.
        d = new Desk().law("age 999;");
        for (int p = 0; p < 12; p++) d.papers(4).due(4, "close");
        d.due(1, "move", 0, 0).due(4, "close").law(2, "age 999 when shelf = 0; age 91;").due(4, "close")
            .law(2, "age 999 when shelf = 0; age 90;").due(0, "close");
    }

    private static void closeEven() {
        new Desk().due(NONE, "close").papers(4).due(4, "close").papers(3).due(3, "close").papers(1).due(1, "close").papers(0)
            .due(0, "close");
        new Desk().papers(2, 4).law("age 5;").due(2, "close").papers(4).due(4, "close").papers(2).due(2, "close");
        // A shelf without papers is none, even if all ages are 0.
        new Desk().papers(4).law("age 0;").due(4, "close").due(1, "move", 0, 1).due(1, "close").due(1, "fire", 1)
            .due(1, "close");
    }

    private static void mean() {
        Desk d = new Desk().papers(0, 0).law("age paper;").due(0, "mean", 0).papers(0).due(1, "mean", 0).papers(0)
            .due(1, "mean", 0).papers(0).due(2, "mean", 0);
        d.law("age paper * 2 + 1;").due(5, "mean", 0).due(1, "move", 4, 4).due(4, "mean", 0).due(9, "mean", 4);
        d = new Desk().law("age 999;");
        for (int p = 0; p < 12; p++) d.papers(2).due(999, "mean", 2);
        d.law(2, "age 998 when paper = 0; age 999;").due(998, "mean", 2);
        // Today: with the dust of today.
        d.law("age dust;").at(3).due(3, "mean", 2);
    }

    private static void noMean() {
        Desk d = new Desk().papers(1);
        for (int s = 0; s < 5; s++) d.due(s == 1 ? 0 : NONE, "mean", s);
        for (int s : new int[] {LEAST, -1, 5, 6, MOST}) d.due(NONE, "mean", s);
        d.due(1, "move", 0, 2).due(NONE, "mean", 1).due(0, "mean", 2);
    }

    private static void nothingStays() {
        Desk d = new Desk().papers(0, 1).aged(9, 0).aged(7, 1).law("age then + read + dust;");
        d.call("set", 0, 2, 9999);
        d.call("read", 0, 0);
        d.due(0, "claim", 0, 9, 8, 999).due(1, "claim", 1, 9, 17, 17);
        List<Integer> before = d.all();
        String[] asked = {"fewest 0", "fewest 10", "fewest 11", "thumbs 0 10 0", "thumbs 1 10 1", "thumbs 1 8 2",
            "leaps 0 0 0", "leaps 0 1 1", "next", "close",
            "mean 0", "of 0 7", "age 0 9999", "look 7"};
        for (String a : asked) {
            String[] w = a.split(" ");
            int[] n = new int[w.length - 1];
            for (int i = 0; i < n.length; i++) n[i] = Integer.parseInt(w[i + 1]);
            d.call(w[0], n);
        }
        Desk.same("what is seen behind all thoughts", d.all(), before);
        d.due(2, "fewest", 0).due(1, "undo");
    }
}

import java.math.BigInteger;

/** The boundaries of readers, papers, shelves, readings, leases and days (promises 1 to 11, 17, 18, 24). */
public final class ArchiveBoundsTest {
    private static final int NONE = Desk.NONE;
    private static final int LEAST = Desk.LEAST;
    private static final int MOST = Desk.MOST;
    private static final int NO_READER = NONE - 99999;
    private static final int NO_PAPER = NONE - 1;

    public static void main(String[] args) {
        Desk.sentence("1 An empty archive", ArchiveBoundsTest::empty);
        Desk.sentence("2 STATE is told: what it was (an int, 0 at first)", ArchiveBoundsTest::state);
        Desk.sentence("DAY 0 .. 9999 (0 at first)", ArchiveBoundsTest::dayRange);
        Desk.sentence("3 READERS 0 .. 11 as they come; NONE if there are twelve", ArchiveBoundsTest::twelveReaders);
        Desk.sentence("BORN -36500 .. 9999", ArchiveBoundsTest::born);
        Desk.sentence("DIES -1 (not told) or 0 .. 9999", ArchiveBoundsTest::dies);
        Desk.sentence("GLASSES 0, 1", ArchiveBoundsTest::glasses);
        Desk.sentence("a KIND 0 .. 3", ArchiveBoundsTest::kinds);
        Desk.sentence("One LIVES on a DAY, if that is not below BORN", ArchiveBoundsTest::livesFromBirth);
        Desk.sentence("and below DIES (if it is told)", ArchiveBoundsTest::livesUntilDeath);
        Desk.sentence("YEARS: DAY less BORN by 365", ArchiveBoundsTest::years);
        Desk.sentence("YEARS (0 at least)", ArchiveBoundsTest::yearsOfTheUnborn);
        Desk.sentence("YEARS and 10 with GLASSES", ArchiveBoundsTest::yearsWithGlasses);
        Desk.sentence("4 what 0 DIES (-1, or not below today)", ArchiveBoundsTest::setDies);
        Desk.sentence("4 what 1 GLASSES", ArchiveBoundsTest::setGlasses);
        Desk.sentence("4 what 2 FRAIL (0 .. 9999; 0 at first)", ArchiveBoundsTest::setFrail);
        Desk.sentence("4 false if one can't be, or another what", ArchiveBoundsTest::setNothing);
        Desk.sentence("4 (THEN of what he READ stays.)", ArchiveBoundsTest::setLeavesThen);
        Desk.sentence("5 PAPERS 0 .. 11 as they come; NONE if there are twelve", ArchiveBoundsTest::twelvePapers);
        Desk.sentence("a SHELF 0 .. 4", ArchiveBoundsTest::shelves);
        Desk.sentence("WRITTEN (the DAY they come)", ArchiveBoundsTest::written);
        Desk.sentence("ahead of any READING it is UNREAD", ArchiveBoundsTest::unreadAtFirst);
        Desk.sentence("6 A PAPER comes on a SHELF; false if one can't be", ArchiveBoundsTest::move);
        Desk.sentence("7 Two unlike SHELVES change all their PAPERS", ArchiveBoundsTest::swap);
        Desk.sentence("7 false if one can't be", ArchiveBoundsTest::swapNothing);
        Desk.sentence("8 A FIRE at a SHELF: how many PAPERS are there", ArchiveBoundsTest::fireCounts);
        Desk.sentence("behind a FIRE at its SHELF, it is UNREAD", ArchiveBoundsTest::unreadBehindFire);
        Desk.sentence("9 A READING: AGE of the PAPER behind it", ArchiveBoundsTest::read);
        Desk.sentence("9 NONE, and nothing is done, if one can't be (he does not LIVE)", ArchiveBoundsTest::readNothing);
        Desk.sentence("10 A LEASE of a PAPER (reader NONE: nobody has it). One may have several", ArchiveBoundsTest::lease);
        Desk.sentence("10 false if one can't be (he does not LIVE)", ArchiveBoundsTest::leaseNothing);
        Desk.sentence("11 DAYS end (1 .. 400)", ArchiveBoundsTest::daysRange);
        Desk.sentence("11 NONE, and nothing is done, if DAY would be above 9999", ArchiveBoundsTest::daysAtTheEnd);
        Desk.sentence("a DRAW: 1664525 times itself + 1013904223 (ints, which wrap)", ArchiveBoundsTest::stateWraps);
        Desk.sentence("its highest 24 bits (without sign) modulo m", ArchiveBoundsTest::drawBits);
        Desk.sentence("if it is below FRAIL, his DIES is the new DAY", ArchiveBoundsTest::belowFrail);
        Desk.sentence("whose FRAIL is above 0", ArchiveBoundsTest::onlyTheFrailDraw);
        Desk.sentence("each who LIVES on the new DAY", ArchiveBoundsTest::onlyTheLivingDraw);
        Desk.sentence("READERS by number", ArchiveBoundsTest::drawsByNumber);
        Desk.sentence("11 how many READERS died by DRAWS in them", ArchiveBoundsTest::deathsCounted);
        Desk.sentence("Then each LEASE whose READER does not LIVE falls", ArchiveBoundsTest::leaseFallsThatDay);
        Desk.sentence("falls to who is NEXT for it, or to nobody", ArchiveBoundsTest::leaseFallsToNobody);
        Desk.sentence("LEASES fall by number of PAPERS", ArchiveBoundsTest::leasesFallByNumber);
        Desk.sentence("24 NEXT: of READERS who LIVE", ArchiveBoundsTest::nextLives);
        Desk.sentence("24 NEXT: and have no LEASE", ArchiveBoundsTest::nextHasNone);
        Desk.sentence("24 NEXT: that of the most YEARS, of several the least", ArchiveBoundsTest::nextIsOldest);
        Desk.sentence("17 Of a PAPER what 0 .. 7; NONE - 1 if there is none such, or another what", ArchiveBoundsTest::of);
        Desk.sentence("18 Of a READER what 0 .. 7; NONE - 99999 if there is none such, or another what",
            ArchiveBoundsTest::who);
        Desk.sentence("18 7 how many LEASES", ArchiveBoundsTest::manyLeases);
        Desk.sentence("An object is used for at most 512 calls", ArchiveBoundsTest::lastCall);
        Desk.finish();
    }

    private static void empty() {
        Desk d = new Desk();
        for (int what = 0; what <= 8; what++) d.due(0, "look", what);
        d.due(0, "fault", 0).due(NONE, "fault", 1).due(0, "fewest", 0).due(NONE, "next").due(NONE, "close");
        for (int shelf = 0; shelf < 5; shelf++) d.due(NONE, "mean", shelf).due(0, "fire", shelf);
        d.due(0, "undo").due(0, "image", 0).due(0, "end", 1).due(0, "text").due(NONE, "book", 0, 0);
        d.due(NO_PAPER, "of", 0, 0).due(NO_READER, "who", 0, 0);
    }

    private static void state() {
        Desk d = new Desk();
        int before = 0;
        for (int v : new int[] {1, -1, MOST, LEAST, 0, 7}) {
            d.due(before, "state", v).due(v, "look", 5);
            before = v;
        }
    }

    private static void dayRange() {
        new Desk().due(0, "look", 0).at(1).at(9998).due(0, "days", 1).due(9999, "look", 0).due(NONE, "days", 1)
            .due(9999, "look", 0);
    }

    private static void twelveReaders() {
        Desk d = new Desk();
        for (int i = 0; i < 12; i++) d.due(i, "look", 1).due(i, "reader", -i, NONE, 0, 0);
        d.due(12, "look", 1).due(NONE, "reader", -99, NONE, 0, 0).due(12, "look", 1);
        for (int i = 0; i < 12; i++) d.due(-i, "who", i, 0);
        d.due(NO_READER, "who", 12, 0);
    }

    private static void born() {
        for (int v : new int[] {-36500, -36499, -1, 0, 1, 9998, 9999}) {
            new Desk().due(0, "reader", v, NONE, 0, 0).due(v, "who", 0, 0);
        }
        for (int v : new int[] {LEAST, -36502, -36501, 10000, 10001, MOST}) {
            new Desk().due(NONE, "reader", v, NONE, 0, 0).due(0, "look", 1);
        }
    }

    private static void dies() {
        for (int v : new int[] {-1, 0, 1, 9998, 9999}) {
            new Desk().due(0, "reader", 0, v, 0, 0).due(v, "who", 0, 1);
        }
        for (int v : new int[] {LEAST, -3, -2, 10000, 10001, MOST}) {
            new Desk().due(NONE, "reader", 0, v, 0, 0).due(0, "look", 1);
        }
        // A death that is told with the reader may be long ago, or ahead of the birth.
        new Desk().at(50).due(0, "reader", 0, 49, 0, 0).due(0, "who", 0, 5).due(1, "reader", 60, 50, 0, 0)
            .due(50, "who", 1, 1);
    }

    private static void glasses() {
        for (int v : new int[] {0, 1}) new Desk().due(0, "reader", 0, NONE, v, 0).due(v, "who", 0, 2);
        for (int v : new int[] {LEAST, -1, 2, 3, MOST}) new Desk().due(NONE, "reader", 0, NONE, v, 0).due(0, "look", 1);
    }

    private static void kinds() {
        for (int v : new int[] {0, 1, 2, 3}) new Desk().due(0, "reader", 0, NONE, 0, v).due(v, "who", 0, 3);
        for (int v : new int[] {LEAST, -1, 4, 5, MOST}) new Desk().due(NONE, "reader", 0, NONE, 0, v).due(0, "look", 1);
    }

    private static void livesFromBirth() {
        Desk d = new Desk().papers(0);
        d.call("reader", 10, NONE, 0, 0);
        d.call("reader", 9999, NONE, 0, 0);
        d.call("reader", 0, NONE, 0, 0);
        d.due(1, "who", 2, 5).due(0, "who", 0, 5);
        d.at(9).due(0, "who", 0, 5).due(NONE, "read", 0, 0).due(0, "lease", 0, 0);
        d.at(10).due(1, "who", 0, 5).due(0, "read", 0, 0).due(1, "lease", 0, 0);
        d.at(11).due(1, "who", 0, 5).due(0, "read", 0, 0);
        d.at(9998).due(0, "who", 1, 5).due(NONE, "read", 0, 1).at(9999).due(1, "who", 1, 5).due(0, "read", 0, 1);
    }

    private static void livesUntilDeath() {
        Desk d = new Desk().papers(0);
        int[][] readers = {{0, 0}, {0, 1}, {0, 20}, {0, 9999}, {0, NONE}, {5, 5}, {5, 6}, {6, 5}};
        for (int[] r : readers) d.call("reader", r[0], r[1], 0, 0);
        int[][] lives = {{0, 0, 1, 1, 1, 1, 0, 0, 0}, {1, 0, 0, 1, 1, 1, 0, 0, 0}, {4, 0, 0, 1, 1, 1, 0, 0, 0},
            {5, 0, 0, 1, 1, 1, 0, 1, 0}, {6, 0, 0, 1, 1, 1, 0, 0, 0}, {19, 0, 0, 1, 1, 1, 0, 0, 0},
            {20, 0, 0, 0, 1, 1, 0, 0, 0}, {21, 0, 0, 0, 1, 1, 0, 0, 0}, {9998, 0, 0, 0, 1, 1, 0, 0, 0},
            {9999, 0, 0, 0, 0, 1, 0, 0, 0}};
        for (int[] day : lives) {
            d.at(day[0]);
            for (int r = 0; r < 8; r++) {
                d.due(day[r + 1], "who", r, 5).due(day[r + 1], "lease", 0, r);
                int age = d.call("who", r, 6);
                d.due(day[r + 1] == 1 ? age : NONE, "read", 0, r);
            }
        }
    }

    private static void years() {
        Desk d = new Desk();
        int[] births = {0, -1, -364, -365, -366, -36500, -36499};
        for (int b : births) d.call("reader", b, NONE, 0, 0);
        int[] on0 = {0, 0, 0, 1, 1, 100, 99};
        for (int r = 0; r < 7; r++) d.due(on0[r], "who", r, 6);
        d.at(364).due(0, "who", 0, 6).due(1, "who", 1, 6).at(365).due(1, "who", 0, 6).at(366).due(1, "who", 0, 6);
        d.at(729).due(1, "who", 0, 6).at(730).due(2, "who", 0, 6);
        d.at(9999).due(27, "who", 0, 6).due(127, "who", 5, 6);
        // Of one who is dead they go on.
        d = new Desk();
        d.call("reader", 0, 100, 0, 0);
        d.at(365).due(0, "who", 0, 5).due(1, "who", 0, 6);
    }

    private static void yearsOfTheUnborn() {
        Desk d = new Desk();
        int[] births = {1, 364, 365, 366, 730, 9999};
        for (int b : births) d.call("reader", b, NONE, 0, 0);
        for (int r = 0; r < births.length; r++) d.due(0, "who", r, 6);
        d.at(1).due(0, "who", 0, 6).at(366).due(1, "who", 0, 6).due(0, "who", 5, 6);
    }

    private static void yearsWithGlasses() {
        Desk d = new Desk();
        int[] births = {0, -365, -36500, 1, 9999};
        for (int b : births) d.call("reader", b, NONE, 1, 0);
        int[] on0 = {10, 11, 110, 10, 10};
        for (int r = 0; r < 5; r++) d.due(on0[r], "who", r, 6);
        d.call("set", 0, 1, 0);
        d.due(0, "who", 0, 6).at(9999).due(137, "who", 2, 6).due(10, "who", 4, 6);
    }

    private static void setDies() {
        for (int today : new int[] {0, 1, 50, 9998, 9999}) {
            Desk d = new Desk().at(today);
            d.call("reader", -365, 9, 0, 0);
            int told = 9;
            int[] tries = {-3, -2, -1, 0, today - 1, today, today + 1, 9998, 9999, 10000, LEAST, MOST};
            for (int v : tries) {
                boolean can = v == -1 || (v >= today && v <= 9999);
                told = can ? v : told;
                d.due(can ? 1 : 0, "set", 0, 0, v).due(told, "who", 0, 1);
            }
        }
        // On the day that is told he does not live, and by -1 a dead one lives again.
        Desk d = new Desk().at(5);
        d.call("reader", 0, NONE, 0, 0);
        d.due(1, "set", 0, 0, 5).due(0, "who", 0, 5).due(1, "set", 0, 0, 6).due(1, "who", 0, 5);
        d.at(7).due(0, "who", 0, 5).due(1, "set", 0, 0, -1).due(1, "who", 0, 5);
    }

    private static void setGlasses() {
        Desk d = new Desk();
        d.call("reader", 0, NONE, 0, 0);
        int[][] tries = {{1, 1, 1}, {-1, 0, 1}, {2, 0, 1}, {0, 1, 0}, {-1, 0, 0}, {2, 0, 0}, {LEAST, 0, 0}, {MOST, 0, 0}};
        for (int[] t : tries) d.due(t[1], "set", 0, 1, t[0]).due(t[2], "who", 0, 2);
    }

    private static void setFrail() {
        Desk d = new Desk();
        d.call("reader", 0, NONE, 0, 0);
        d.due(0, "who", 0, 4);
        int[][] tries = {{1, 1, 1}, {-1, 0, 1}, {0, 1, 0}, {9998, 1, 9998}, {9999, 1, 9999}, {10000, 0, 9999}, {LEAST, 0,
            9999}, {MOST, 0, 9999}};
        for (int[] t : tries) d.due(t[1], "set", 0, 2, t[0]).due(t[2], "who", 0, 4);
        d.due(1, "reader", 0, NONE, 0, 0).due(0, "who", 1, 4);
    }

    private static void setNothing() {
        Desk d = new Desk();
        d.due(0, "set", 0, 0, -1);
        d.call("reader", 0, NONE, 0, 0);
        d.call("reader", 0, NONE, 0, 0);
        for (int what = 0; what <= 2; what++) {
            d.due(1, "set", 0, what, 0).due(1, "set", 1, what, 0);
            for (int r : new int[] {LEAST, -1, 2, 12, MOST}) d.due(0, "set", r, what, 0);
        }
        for (int what : new int[] {LEAST, -1, 3, 4, MOST}) d.due(0, "set", 0, what, 0).due(0, "set", 0, what, 1);
    }

    private static void setLeavesThen() {
        Desk d = new Desk().aged(20, 0).papers(0).law("age now;");
        d.due(20, "read", 0, 0).due(1, "set", 0, 1, 1).due(20, "of", 0, 3).due(30, "age", 0, 0);
        d.due(1, "set", 0, 0, 0).due(20, "of", 0, 3).due(0, "of", 0, 2).due(1, "of", 0, 4);
    }

    private static void twelvePapers() {
        Desk d = new Desk();
        for (int i = 0; i < 12; i++) d.due(i, "look", 2).due(i, "paper", i % 5);
        d.due(12, "look", 2).due(NONE, "paper", 0).due(12, "look", 2);
        for (int i = 0; i < 12; i++) d.due(i % 5, "of", i, 0);
        d.due(NO_PAPER, "of", 12, 0);
        // The last number is used as the others are.
        d.aged(20, 0).due(20, "read", 11, 0).due(1, "lease", 11, 0).due(1, "move", 11, 4).due(NONE, "read", 12, 0);
    }

    private static void shelves() {
        for (int s : new int[] {0, 1, 2, 3, 4}) {
            new Desk().due(0, "fire", s).due(NONE, "mean", s).due(0, "paper", s).due(s, "of", 0, 0).due(1, "fire", s)
                .due(0, "mean", s)
                .due(s, "close").due(1, "move", 0, 4 - s).due(4 - s, "of", 0, 0);
        }
        for (int s : new int[] {LEAST, -2, -1, 5, 6, MOST}) {
            new Desk().due(NONE, "paper", s).due(0, "look", 2).due(NONE, "fire", s).due(NONE, "mean", s).papers(1)
                .due(0, "move", 0, s)
                .due(1, "of", 0, 0).due(0, "swap", s, 1).due(0, "swap", 1, s).due(1, "of", 0, 0);
        }
    }

    private static void written() {
        Desk d = new Desk().papers(0).at(1).papers(0).at(9999).papers(0);
        int[] days = {0, 1, 9999};
        for (int p = 0; p < 3; p++) d.due(days[p], "of", p, 1);
    }

    private static void unreadAtFirst() {
        Desk d = new Desk().at(7).papers(2).at(9);
        int[] want = {2, 7, NONE, 0, 0, 7, NONE};
        for (int what = 0; what < 7; what++) d.due(want[what], "of", 0, what);
        String[] facts = {"then", "now", "read", "alive"};
        for (String f : facts) d.law("age " + f + " + 5;").due(5, "age", 0, 9);
        d.law("age kind;").due(9, "age", 0, 9).law("age dust;").due(2, "age", 0, 9);
    }

    private static void move() {
        Desk d = new Desk().aged(20, 0);
        d.due(0, "move", 0, 0).papers(1, 1);
        d.call("read", 0, 0);
        d.call("lease", 0, 0);
        for (int p : new int[] {LEAST, -1, 2, 12, MOST}) d.due(0, "move", p, 3);
        d.due(1, "move", 1, 1).due(1, "move", 1, 3).due(3, "of", 1, 0).due(1, "of", 0, 0).due(1, "move", 0, 0);
        int[] want = {0, 0, 0, 20, 1, 0, 0};
        for (int what = 0; what < 7; what++) d.due(want[what], "of", 0, what);
    }

    private static void swap() {
        for (int a = 0; a < 5; a++) {
            for (int b = 0; b < 5; b++) {
                Desk d = new Desk().papers(0, 1, 2, 3, 4, a, a, b).due(a == b ? 0 : 1, "swap", a, b);
                for (int p = 0; p < 5; p++) d.due(a == b ? p : p == a ? b : p == b ? a : p, "of", p, 0);
                d.due(b, "of", 5, 0).due(b, "of", 6, 0).due(a, "of", 7, 0);
            }
        }
        // One of them, or both, may be empty.
        new Desk().papers(3).due(1, "swap", 3, 0).due(0, "of", 0, 0).due(1, "swap", 3, 0).due(3, "of", 0, 0)
            .due(1, "swap", 1, 2)
            .due(3, "of", 0, 0);
        new Desk().due(1, "swap", 0, 4);
    }

    private static void swapNothing() {
        Desk d = new Desk().papers(0, 4);
        for (int s = 0; s < 5; s++) d.due(0, "swap", s, s);
        int[][] not = {{-1, 0}, {0, -1}, {5, 4}, {4, 5}, {-1, 5}, {5, -1}, {-1, -1}, {5, 5}, {LEAST, 0}, {0, MOST}};
        for (int[] n : not) d.due(0, "swap", n).due(0, "of", 0, 0).due(4, "of", 1, 0);
    }

    private static void fireCounts() {
        Desk d = new Desk();
        for (int i = 0; i < 11; i++) d.due(i, "fire", 2).papers(2);
        d.due(11, "fire", 2).papers(2).due(12, "fire", 2).due(0, "fire", 1).due(1, "move", 11, 1).due(11, "fire", 2)
            .due(1, "fire", 1);
        for (int s : new int[] {LEAST, -1, 5, MOST}) d.due(NONE, "fire", s);
    }

    private static void unreadBehindFire() {
        Desk d = new Desk().aged(20, 1).papers(3).at(4).papers(3, 4).at(6);
        for (int p = 0; p < 3; p++) {
            d.due(20, "read", p, 0).due(20, "read", p, 0).due(1, "lease", p, 0);
        }
        d.at(9).due(2, "fire", 3);
        int[][] want = {{3, 0, NONE, 0, 0, 9, 0}, {3, 4, NONE, 0, 0, 9, 0}, {4, 4, 0, 20, 2, 6, 0}};
        for (int p = 0; p < 3; p++) for (int what = 0; what < 7; what++) d.due(want[p][what], "of", p, what);
        d.due(0, "age", 0, 9).due(0, "age", 1, 9).due(20, "age", 2, 9).due(6, "look", 3).due(20, "book", 5, 4);
        d.law("age dust;").due(0, "age", 0, 9).due(1, "age", 0, 10).due(3, "age", 2, 9);
        // It may burn on the day of its reading, and be read again.
        d.law(0, "").due(20, "read", 0, 0).due(1, "of", 0, 4).due(2, "fire", 3).due(0, "of", 0, 4).due(20, "read", 0, 0)
            .due(1, "of", 0, 4);
    }

    private static void read() {
        Desk d = new Desk().aged(20, 0).aged(30, 2).papers(0, 1).at(3);
        d.due(20, "read", 0, 0);
        int[] first = {0, 0, 0, 20, 1, 3, NONE};
        for (int what = 0; what < 7; what++) d.due(first[what], "of", 0, what);
        d.at(5).due(30, "read", 0, 1);
        int[] second = {0, 0, 1, 30, 2, 5, NONE};
        for (int what = 0; what < 7; what++) d.due(second[what], "of", 0, what);
        d.due(NONE, "of", 1, 2).due(0, "of", 1, 4);
        // The law is asked with the paper as it is behind the reading.
        d.law("age then + read*100 + dust*7 + kind*3 + alive;").due(337, "read", 0, 1).due(121, "read", 1, 0);
    }

    private static void readNothing() {
        Desk d = new Desk().papers(0, 1);
        d.call("reader", 5, 8, 0, 0);
        d.call("reader", -365, NONE, 0, 0);
        int[][] not = {{-1, 1}, {2, 1}, {12, 1}, {LEAST, 1}, {MOST, 1}, {0, -1}, {0, 2}, {0, 12}, {0, LEAST}, {0, MOST}, {0,
            0}};
        d.at(4);
        for (int[] n : not) d.due(NONE, "read", n).due(0, "look", 3).due(0, "look", 7).due(0, "of", 0, 4).due(0, "of", 1, 4);
        d.at(5).due(0, "read", 0, 0).at(7).due(0, "read", 0, 0).at(8).due(NONE, "read", 0, 0).at(9).due(NONE, "read", 0, 0);
        d.due(2, "of", 0, 4).due(7, "of", 0, 5).due(2, "look", 3).due(1, "read", 1, 1);
    }

    private static void lease() {
        Desk d = new Desk().aged(1, 0).aged(2, 0);
        for (int p = 0; p < 12; p++) d.papers(p % 5).due(NONE, "of", p, 6);
        for (int p = 0; p < 12; p++) d.due(1, "lease", p, 1).due(1, "of", p, 6).due(p + 1, "who", 1, 7);
        d.due(1, "lease", 0, 0).due(11, "who", 1, 7).due(1, "who", 0, 7).due(1, "lease", 0, 0).due(1, "who", 0, 7);
        d.due(1, "lease", 11, NONE).due(NONE, "of", 11, 6).due(10, "who", 1, 7).due(1, "lease", 11, NONE);
    }

    private static void leaseNothing() {
        Desk d = new Desk();
        d.due(0, "lease", 0, NONE).papers(0, 1);
        d.call("reader", 5, 8, 0, 0);
        d.call("reader", 0, NONE, 0, 0);
        d.call("lease", 0, 1);
        d.at(4);
        int[][] not = {{-1, 1}, {2, 1}, {12, 1}, {LEAST, 1}, {MOST, 1}, {-1, NONE}, {2, NONE}, {0, -2}, {0, 2}, {0, 12}, {0,
            LEAST},
            {0, MOST}, {0, 0}};
        for (int[] n : not) d.due(0, "lease", n).due(1, "of", 0, 6).due(NONE, "of", 1, 6);
        d.at(5).due(1, "lease", 1, 0).at(7).due(0, "of", 1, 6).due(1, "lease", 1, 0).at(8).due(0, "lease", 0, 0)
            .due(1, "of", 0, 6);
    }

    private static void daysRange() {
        int[][] tries = {{1, 1}, {2, 2}, {399, 399}, {400, 400}};
        for (int[] t : tries) new Desk().due(0, "days", t[0]).due(t[1], "look", 0);
        for (int n : new int[] {LEAST, -400, -1, 0, 401, 402, MOST}) {
            new Desk().due(NONE, "days", n).due(0, "look", 0);
            new Desk().at(50).due(NONE, "days", n).due(50, "look", 0);
        }
    }

    private static void daysAtTheEnd() {
        // No day of those asked for ends, and nobody draws.
        Desk d = new Desk().at(9600).aged(9, 0);
        d.due(1, "set", 0, 2, 9999).due(NONE, "days", 400).due(9600, "look", 0).due(0, "look", 5).due(NONE, "who", 0, 1)
            .due(0, "look", 8);
        new Desk().at(9599).due(0, "days", 400).due(9999, "look", 0);
        new Desk().at(9600).due(NONE, "days", 400).due(0, "days", 399).due(9999, "look", 0);
        new Desk().at(9997).due(NONE, "days", 3).due(9997, "look", 0).due(0, "days", 2).due(NONE, "days", 1)
            .due(NONE, "days", 400);
    }

    /** The state that becomes this one by a draw. */
    private static int ahead(int next) {
        BigInteger all = BigInteger.ONE.shiftLeft(32);
        BigInteger part = BigInteger.valueOf(1664525).modInverse(all);
        return BigInteger.valueOf(next).subtract(BigInteger.valueOf(1013904223)).multiply(part).mod(all).intValue();
    }

    /** One reader of that frailty, and the state from which his draw comes. */
    private static Desk frail(int frail, int state) {
        Desk d = new Desk();
        d.call("reader", 0, NONE, 0, 0);
        d.call("set", 0, 2, frail);
        d.call("state", state);
        return d;
    }

    private static void stateWraps() {
        int[][] steps = {{0, 1013904223}, {1013904223, 1196435762}, {1, 1015568748}, {-1, 1012239698}};
        for (int[] s : steps) frail(1, s[0]).due(0, "days", 1).due(s[1], "look", 5);
        for (int s : new int[] {LEAST, MOST, 1196435762, -7, 123456789}) {
            int next = (int) ((1664525L * s + 1013904223L) & 0xFFFFFFFFL);
            frail(1, s).due((next >>> 8) % 10000 < 1 ? 1 : 0, "days", 1).due(next, "look", 5);
        }
        for (int next : new int[] {LEAST, -1, 0, 512, MOST}) {
            Desk d = frail(1, ahead(next));
            d.call("days", 1);
            d.due(next, "look", 5);
        }
    }

    /** What is drawn: he dies if he is more frail by one, and lives if he is as frail. */
    private static void drawn(int draw, int next) {
        if (draw > 0) frail(draw, ahead(next)).due(0, "days", 1).due(1, "who", 0, 5).due(NONE, "who", 0, 1)
            .due(0, "look", 8);
        if (draw < 9999) frail(draw + 1, ahead(next)).due(1, "days", 1).due(0, "who", 0, 5).due(1, "who", 0, 1)
            .due(1, "look", 8);
    }

    private static void drawBits() {
        drawn(563, 1013904223);
        drawn(3577, 1196435762);
        // Without sign: all bits, and the highest alone.
        drawn(7215, -1);
        drawn(8608, LEAST);
        drawn(8607, MOST);
        // The lowest eight bits do not count.
        drawn(0, 0);
        drawn(0, 255);
        drawn(1, 256);
        drawn(1, 511);
        drawn(2, 512);
        // Modulo 10000.
        drawn(9998, 9998 * 256);
        drawn(9999, 9999 * 256);
        drawn(9999, 9999 * 256 + 255);
        drawn(0, 10000 * 256);
        drawn(1, 10001 * 256);
    }

    private static void belowFrail() {
        frail(9999, ahead(9999 * 256)).due(0, "days", 1).due(NONE, "who", 0, 1);
        frail(9999, ahead(9998 * 256)).due(1, "days", 1).due(1, "who", 0, 1);
        frail(1, ahead(0)).due(1, "days", 1).due(1, "who", 0, 1);
        frail(1, ahead(256)).due(0, "days", 1).due(NONE, "who", 0, 1);
        // A death that was told for later comes sooner.
        Desk d = frail(1, ahead(0));
        d.call("set", 0, 0, 500);
        d.due(1, "days", 1).due(1, "who", 0, 1);
        // The new day, and not the one that ended, nor the last of those asked for.
        d = frail(0, 0).at(40);
        d.call("set", 0, 2, 9999);
        d.call("state", ahead(0));
        d.due(1, "days", 5).due(41, "who", 0, 1).due(45, "look", 0);
    }

    private static void onlyTheFrailDraw() {
        frail(0, 0).due(0, "days", 1).due(0, "look", 5).due(0, "days", 400).due(0, "look", 5);
        frail(0, ahead(0)).due(0, "days", 1).due(NONE, "who", 0, 1).due(ahead(0), "look", 5);
        frail(1, 0).due(0, "days", 1).due(1013904223, "look", 5);
        // A draw for each day.
        frail(1, 0).due(0, "days", 2).due(1196435762, "look", 5);
    }

    private static void onlyTheLivingDraw() {
        int[][] readers = {{1, NONE, 1}, {2, NONE, 0}, {0, 1, 0}, {0, 2, 1}, {0, 0, 0}, {1, 1, 0}, {1, 2, 1}, {-36500, NONE,
            1}};
        for (int[] r : readers) {
            Desk d = new Desk();
            d.call("reader", r[0], r[1], 0, 0);
            d.call("set", 0, 2, 1);
            d.due(0, "days", 1).due(r[2] == 1 ? 1013904223 : 0, "look", 5);
        }
        // Who died by a draw draws no more.
        frail(9999, 0).due(1, "days", 3).due(1013904223, "look", 5).due(1, "look", 8);
    }

    private static void drawsByNumber() {
        // The draws from 0 are 563, 3577, and then those behind 1196435762.
        Desk d = new Desk();
        for (int r = 0; r < 2; r++) d.call("reader", 0, NONE, 0, 0);
        d.call("set", 0, 2, 564);
        d.call("set", 1, 2, 3577);
        d.due(1, "days", 1).due(1, "who", 0, 1).due(NONE, "who", 1, 1).due(1196435762, "look", 5);
        d = new Desk();
        for (int r = 0; r < 2; r++) d.call("reader", 0, NONE, 0, 0);
        d.call("set", 0, 2, 563);
        d.call("set", 1, 2, 3578);
        d.due(1, "days", 1).due(NONE, "who", 0, 1).due(1, "who", 1, 1).due(1196435762, "look", 5);
        // The twelfth draws too.
        d = new Desk();
        for (int r = 0; r < 12; r++) d.call("reader", 0, NONE, 0, 0);
        d.call("set", 11, 2, 564);
        d.due(1, "days", 1).due(1, "who", 11, 1);
    }

    private static void deathsCounted() {
        Desk d = new Desk();
        for (int r = 0; r < 12; r++) {
            d.call("reader", 0, r == 11 ? 2 : NONE, 0, 0);
            d.call("set", r, 2, r < 3 ? 9999 : 0);
        }
        // Deaths that are told do not count.
        d.call("state", 0);
        d.due(3, "days", 3).due(3, "look", 8).due(0, "who", 11, 5).due(0, "days", 400).due(3, "look", 8);
        // One who is told to live again may die by a draw once more.
        d.call("set", 0, 0, NONE);
        d.call("state", 0);
        d.due(1, "days", 1).due(4, "look", 8).due(404, "who", 0, 1);
    }

    private static void leaseFallsThatDay() {
        Desk d = new Desk().papers(0).aged(5, 0).aged(9, 0);
        d.call("set", 1, 0, 3);
        d.due(1, "lease", 0, 1).at(2).due(1, "of", 0, 6).at(3).due(0, "of", 0, 6);
        // Several days in one call: it falls on the third, when one who is born on the fourth is not there yet.
        d = new Desk().papers(0).aged(5, 0).aged(9, 0);
        d.call("reader", 4, NONE, 1, 0);
        d.call("set", 1, 0, 3);
        d.due(1, "lease", 0, 1).due(0, "days", 10).due(0, "of", 0, 6);
        // It falls on the day of a draw, behind all draws: the next one is not who died that day.
        d = new Desk().papers(0).aged(5, 0).aged(9, 0).aged(8, 0);
        d.call("set", 1, 2, 564);
        d.call("set", 2, 2, 3578);
        d.due(1, "lease", 0, 1).due(2, "days", 1).due(0, "of", 0, 6);
        // Who is next is asked of the new day: one is born on it, one has his birthday on it.
        d = new Desk().papers(0).aged(9, 0);
        d.call("reader", 3, NONE, 0, 0);
        d.call("set", 0, 0, 3);
        d.due(1, "lease", 0, 0).at(3).due(1, "of", 0, 6);
        d = new Desk().papers(0).aged(9, 0).aged(4, 0);
        d.call("reader", 3 - 5 * 365, NONE, 0, 0);
        d.call("set", 0, 0, 3);
        d.due(1, "lease", 0, 0).at(2).due(1, "next").due(1, "set", 0, 0, 3).at(3).due(2, "of", 0, 6).due(1, "next");
        // And one whose last day has ended is not asked.
        d = new Desk().papers(0).aged(9, 0).aged(8, 0).aged(4, 0);
        d.call("set", 0, 0, 3);
        d.call("set", 1, 0, 3);
        d.due(1, "lease", 0, 0).at(3).due(2, "of", 0, 6);
        // A told death of today leaves the lease until the day ends.
        d = new Desk().papers(0).aged(5, 0).aged(9, 0);
        d.due(1, "lease", 0, 1).due(1, "set", 1, 0, 0).due(1, "of", 0, 6).due(1, "who", 1, 7).at(1).due(0, "of", 0, 6)
            .due(0, "who", 1, 7);
        // Who lives keeps it, and a free one stays free.
        d = new Desk().papers(0, 0).aged(5, 0).aged(9, 0);
        d.due(1, "lease", 0, 0).at(400).due(0, "of", 0, 6).due(NONE, "of", 1, 6);
    }

    private static void leaseFallsToNobody() {
        Desk d = new Desk().papers(0, 1).aged(5, 0);
        d.call("lease", 0, 0);
        d.call("set", 0, 0, 1);
        d.at(1).due(NONE, "of", 0, 6);
        // It does not come back to anybody by itself.
        d.aged(7, 0).at(2).due(NONE, "of", 0, 6);
        // Who has a lease already is not next.
        d = new Desk().papers(0, 1).aged(5, 0).aged(6, 0);
        d.call("lease", 0, 0);
        d.call("lease", 1, 1);
        d.call("set", 0, 0, 1);
        d.at(1).due(NONE, "of", 0, 6).due(1, "of", 1, 6);
    }

    private static void leasesFallByNumber() {
        Desk d = new Desk().papers(0, 1, 2).aged(9, 0).aged(5, 0).aged(7, 0);
        for (int p = 2; p >= 0; p--) d.call("lease", p, 0);
        d.call("set", 0, 0, 1);
        d.at(1).due(2, "of", 0, 6).due(1, "of", 1, 6).due(NONE, "of", 2, 6);
        // One may die who has leases between those of another.
        d = new Desk().papers(0, 1, 2, 3).aged(9, 0).aged(5, 0).aged(7, 0).aged(6, 0);
        d.call("lease", 1, 0);
        d.call("lease", 2, 1);
        d.call("lease", 3, 0);
        d.call("set", 0, 0, 1);
        d.at(1).due(NONE, "of", 0, 6).due(2, "of", 1, 6).due(1, "of", 2, 6).due(3, "of", 3, 6);
        // Of two who die at once the leases go by papers, too.
        d = new Desk().papers(0, 1).aged(9, 0).aged(9, 0).aged(3, 0).aged(4, 0);
        d.call("lease", 0, 1);
        d.call("lease", 1, 0);
        d.call("set", 0, 0, 1);
        d.call("set", 1, 0, 1);
        d.at(1).due(3, "of", 0, 6).due(2, "of", 1, 6);
        // All twelve papers of one go to eleven others, and the last to nobody.
        d = new Desk().aged(99, 0);
        for (int r = 1; r < 12; r++) d.aged(r, 0);
        for (int p = 0; p < 12; p++) {
            d.papers(0);
            d.call("lease", p, 0);
        }
        d.call("set", 0, 0, 1);
        d.at(1);
        for (int p = 0; p < 11; p++) d.due(11 - p, "of", p, 6);
        d.due(NONE, "of", 11, 6);
    }

    private static void nextLives() {
        Desk d = new Desk();
        d.call("reader", 6, NONE, 1, 0);
        d.call("reader", 0, 5, 1, 0);
        d.due(1, "next").at(4).due(1, "next").at(5).due(NONE, "next").at(6).due(0, "next");
    }

    private static void nextHasNone() {
        Desk d = new Desk().papers(0, 1).aged(3, 0).aged(2, 0);
        d.due(0, "next").due(1, "lease", 0, 0).due(1, "next").due(1, "lease", 1, 1).due(NONE, "next");
        d.due(1, "lease", 0, NONE).due(0, "next").due(1, "lease", 0, 1).due(0, "next").due(1, "lease", 1, 0)
            .due(NONE, "next");
        // The lease of the last paper counts too.
        d = new Desk().aged(3, 0);
        for (int p = 0; p < 12; p++) d.papers(0);
        d.due(1, "lease", 11, 0).due(NONE, "next");
    }

    private static void nextIsOldest() {
        Desk d = new Desk();
        d.due(NONE, "next").aged(0, 0).due(0, "next").aged(0, 0).due(0, "next").aged(1, 0).due(2, "next").aged(1, 0)
            .due(2, "next");
        // Years count, not days; and ten with glasses.
        d.call("reader", -366, NONE, 0, 0);
        d.due(2, "next");
        d.call("reader", 0, NONE, 1, 0);
        d.due(5, "next");
        d.aged(10, 0).due(5, "next").aged(11, 0).due(7, "next");
        for (int r = 8; r < 11; r++) d.aged(11, 0).due(7, "next");
        d.aged(12, 0).due(11, "next");
    }

    private static void of() {
        Desk d = new Desk().aged(20, 0);
        for (int what = -1; what <= 8; what++) d.due(NO_PAPER, "of", 0, what);
        d.papers(4).at(3).papers(2);
        d.call("read", 1, 0);
        d.call("lease", 1, 0);
        int[][] want = {{4, 0, NONE, 0, 0, 0, NONE, 400}, {2, 3, 0, 20, 1, 3, 0, 400}};
        for (int p = 0; p < 2; p++) for (int what = 0; what <= 7; what++) d.due(want[p][what], "of", p, what);
        for (int what : new int[] {LEAST, -2, -1, 8, 9, MOST}) d.due(NO_PAPER, "of", 0, what).due(NO_PAPER, "of", 1, what);
        for (int p : new int[] {LEAST, -2, -1, 2, 3, 12, MOST}) for (int what = 0; what <= 7; what++) d.due(NO_PAPER, "of",
            p, what);
    }

    private static void who() {
        Desk d = new Desk();
        for (int what = -1; what <= 8; what++) d.due(NO_READER, "who", 0, what);
        d.call("reader", -7300, NONE, 0, 1);
        d.call("reader", 9, 99, 1, 3);
        d.call("set", 1, 2, 77);
        int[][] want = {{-7300, NONE, 0, 1, 0, 1, 20, 0}, {9, 99, 1, 3, 77, 0, 10, 0}};
        for (int r = 0; r < 2; r++) for (int what = 0; what <= 7; what++) d.due(want[r][what], "who", r, what);
        for (int what : new int[] {LEAST, -2, -1, 8, 9, MOST}) d.due(NO_READER, "who", 0, what)
            .due(NO_READER, "who", 1, what);
        for (int r : new int[] {LEAST, -2, -1, 2, 3, 12, MOST}) for (int what = 0; what <= 7; what++) d.due(NO_READER,
            "who", r, what);
    }

    private static void manyLeases() {
        Desk d = new Desk().aged(1, 0).papers(0, 1);
        d.due(0, "who", 0, 7).due(1, "lease", 1, 0).due(1, "who", 0, 7).due(1, "lease", 0, 0).due(2, "who", 0, 7);
        d.due(1, "lease", 1, NONE).due(1, "who", 0, 7).due(1, "lease", 0, NONE).due(0, "who", 0, 7);
    }

    private static void lastCall() {
        Desk d = new Desk().papers(0).aged(20, 0);
        for (int i = 1; i <= 508; i++) d.due(20, "read", 0, 0);
        d.due(508, "of", 0, 4);
    }
}

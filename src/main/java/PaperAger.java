/**
 * The clerk who ages papers: each paper is as old as whoever read it last makes it, by a law that
 * is told as a text. All rows are made once with the object, and no call makes a new one.
 */
public final class PaperAger {
    public static final int NONE = -1;

    private static final int LAST_DAY = 9999;
    private static final int READERS = 12;
    private static final int PAPERS = 12;
    private static final int SHELVES = 5;
    private static final int KINDS = 4;
    private static final int MOST_AGE = 999;
    private static final int YEAR = 365;
    private static final int LONGEST_STAY = 400;
    private static final int FIRST_PAPER_ASKED = 10;

    private final Archive archive = new Archive();
    private final Archive kept = new Archive();
    private boolean isKept = false;
    private final Tape tape = new Tape();
    private final LawReader lawReader = new LawReader();
    private final Trail trail = new Trail();
    private final Thought thought = new Thought();

    public PaperAger() {
    }

    public int state(int v) {
        int was = archive.state;
        archive.state = v;
        return was;
    }

    public int reader(int born, int dies, int glasses, int kind) {
        boolean can = within(born, -36500, LAST_DAY) && within(dies, NONE, LAST_DAY)
            && within(glasses, 0, 1) && within(kind, 0, KINDS - 1);
        if (!can || archive.readerCount >= READERS) {
            return NONE;
        }
        trail.forget();
        int number = archive.readerCount;
        archive.readers[number].become(born, dies, glasses, kind);
        archive.readerCount = number + 1;
        return number;
    }

    public boolean set(int reader, int what, int v) {
        Reader r = archive.readerAt(reader);
        if (r == null) {
            return false;
        }
        boolean can = r.tell(what, v, archive.day);
        if (can) {
            trail.forget();
        }
        return can;
    }

    public int paper(int shelf) {
        if (!isShelf(shelf) || archive.paperCount >= PAPERS) {
            return NONE;
        }
        trail.forget();
        int number = archive.paperCount;
        archive.papers[number].become(number, shelf, archive.day);
        archive.paperCount = number + 1;
        return number;
    }

    public boolean move(int paper, int shelf) {
        Paper p = archive.paperAt(paper);
        if (p == null || !isShelf(shelf)) {
            return false;
        }
        trail.forget();
        p.shelf = shelf;
        return true;
    }

    public boolean swap(int a, int b) {
        if (!isShelf(a) || !isShelf(b) || a == b) {
            return false;
        }
        trail.forget();
        archive.changeShelves(a, b);
        return true;
    }

    public int fire(int shelf) {
        if (!isShelf(shelf)) {
            return NONE;
        }
        trail.forget();
        return archive.burn(shelf);
    }

    public int read(int paper, int reader) {
        Paper p = archive.paperAt(paper);
        Reader r = archive.readerAt(reader);
        int day = archive.day;
        if (p == null || r == null || !r.livesOn(day)) {
            return NONE;
        }
        int ahead = archive.ageOf(p, day);
        trail.keep(p, archive.book.hasRoom());
        p.takeReading(reader, r.yearsOn(day), day);
        int behind = archive.ageOf(p, day);
        archive.book.write(paper, reader, day, ahead, behind);
        return behind;
    }

    public boolean lease(int paper, int reader) {
        Paper p = archive.paperAt(paper);
        Reader r = archive.readerAt(reader);
        boolean can = reader == NONE || (r != null && r.livesOn(archive.day));
        if (p == null || !can) {
            return false;
        }
        trail.forget();
        p.lease = reader;
        return true;
    }

    public int days(int n) {
        if (!within(n, 1, 400) || archive.day + n > LAST_DAY) {
            return NONE;
        }
        trail.forget();
        int dead = 0;
        for (int i = 0; i < n; i++) {
            dead += archive.endDay();
        }
        return dead;
    }

    public int feed(int a, int b, int c, int d, int e) {
        if (!tape.hasRoom(20)) {
            return NONE;
        }
        tape.put(a);
        tape.put(b);
        tape.put(c);
        tape.put(d);
        tape.put(e);
        return tape.count;
    }

    public boolean end(int n) {
        if (!within(n, 0, tape.count)) {
            return false;
        }
        tape.count = n;
        return true;
    }

    public int text() {
        boolean faultless = lawReader.readAll(tape);
        tape.count = 0;
        if (!faultless) {
            return NONE;
        }
        archive.law.copyFrom(lawReader.draft);
        return archive.law.lines;
    }

    public int fault(int what) {
        switch (what) {
            case 0:
                return lawReader.fault;
            case 1:
                return lawReader.faultPlace;
            default:
                return NONE;
        }
    }

    public int age(int paper, int day) {
        Paper p = archive.paperAt(paper);
        if (p == null || !within(day, archive.day, LAST_DAY)) {
            return NONE;
        }
        return archive.ageOf(p, day);
    }

    public int of(int paper, int what) {
        Paper p = archive.paperAt(paper);
        if (p == null) {
            return NONE - 1;
        }
        switch (what) {
            case 0:
                return p.shelf;
            case 1:
                return p.written;
            case 2:
                return p.reader;
            case 3:
                return p.then;
            case 4:
                return p.times;
            case 5:
                return p.latest;
            case 6:
                return p.lease;
            case 7:
                return archive.stayOf(p);
            default:
                return NONE - 1;
        }
    }

    public int who(int reader, int what) {
        Reader r = archive.readerAt(reader);
        if (r == null) {
            return NONE - 99999;
        }
        switch (what) {
            case 0:
                return r.born;
            case 1:
                return r.dies;
            case 2:
                return r.glasses;
            case 3:
                return r.kind;
            case 4:
                return r.frail;
            case 5:
                return r.livesOn(archive.day) ? 1 : 0;
            case 6:
                return r.yearsOn(archive.day);
            case 7:
                return archive.leasesOf(reader);
            default:
                return NONE - 99999;
        }
    }

    public int book(int i, int what) {
        return archive.book.entry(i, what);
    }

    public int claim(int paper, int day, int from, int to) {
        boolean can = archive.paperAt(paper) != null && within(day, archive.day, LAST_DAY)
            && from >= 0 && from <= to && to <= MOST_AGE;
        if (!can || !archive.claims.hasRoom()) {
            return NONE;
        }
        return archive.claims.add(paper, day, from, to);
    }

    public int fewest(int what) {
        boolean ofPaper = within(what, FIRST_PAPER_ASKED, FIRST_PAPER_ASKED + PAPERS - 1);
        if ((what != 0 && !ofPaper) || archive.claims.anyWentBy(archive.day)) {
            return NONE;
        }
        thought.weigh(archive);
        int set = thought.leastSet(archive);
        if (what == 0 || set == NONE) {
            return set;
        }
        return thought.readerOf(archive, what - FIRST_PAPER_ASKED, set);
    }

    public int thumbs(int paper, int age, int what) {
        Paper p = archive.paperAt(paper);
        if (p == null || !within(age, 0, MOST_AGE) || !within(what, 0, 2)) {
            return NONE;
        }
        thought.seekThumbs(archive, p, age);
        switch (what) {
            case 0:
                return thought.thumbCount;
            case 1:
                return thought.firstReader;
            default:
                return thought.firstDay;
        }
    }

    public int leaps(int kind, int n, int what) {
        if (!within(kind, 0, KINDS - 1) || !within(n, 0, MOST_AGE)) {
            return NONE;
        }
        switch (what) {
            case 0:
                return archive.countLeaps(kind, n);
            case 1:
                return archive.firstLeap(kind, n);
            default:
                return NONE;
        }
    }

    public int next() {
        return archive.nextForLease();
    }

    public int close() {
        int best = NONE;
        int most = NONE;
        for (int shelf = 0; shelf < SHELVES; shelf++) {
            int sum = archive.agesOn(shelf);
            if (archive.papersOn(shelf) > 0 && sum > most) {
                most = sum;
                best = shelf;
            }
        }
        return best;
    }

    public int mean(int shelf) {
        int many = archive.papersOn(shelf);
        return many > 0 ? archive.agesOn(shelf) / many : NONE;
    }

    public boolean undo() {
        if (trail.count <= 0) {
            return false;
        }
        boolean wrote = trail.latestWrote();
        Paper before = trail.takeLatest();
        Paper p = archive.paperAt(before.number);
        if (p != null) {
            p.copyFrom(before);
        }
        if (wrote) {
            archive.book.dropLast();
        }
        return true;
    }

    public boolean image(boolean taken) {
        if (taken) {
            kept.copyFrom(archive);
            isKept = true;
            return true;
        }
        if (!isKept) {
            return false;
        }
        trail.forget();
        archive.copyFrom(kept);
        return true;
    }

    public int look(int what) {
        switch (what) {
            case 0:
                return archive.day;
            case 1:
                return archive.readerCount;
            case 2:
                return archive.paperCount;
            case 3:
                return archive.book.lines;
            case 4:
                return archive.claims.count;
            case 5:
                return archive.state;
            case 6:
                return archive.law.lines;
            case 7:
                return trail.count;
            case 8:
                return archive.died;
            default:
                return NONE;
        }
    }

    private static boolean within(int v, int least, int most) {
        return v >= least && v <= most;
    }

    private static boolean isShelf(int v) {
        return within(v, 0, SHELVES - 1);
    }

    /** Somebody who may read. */
    private static final class Reader {
        int born;
        int dies;
        int glasses;
        int kind;
        int frail;

        void become(int born, int dies, int glasses, int kind) {
            this.born = born;
            this.dies = dies;
            this.glasses = glasses;
            this.kind = kind;
            this.frail = 0;
        }

        boolean tell(int what, int v, int today) {
            if (what == 0 && (v == NONE || within(v, today, LAST_DAY))) {
                dies = v;
                return true;
            }
            if (what == 1 && within(v, 0, 1)) {
                glasses = v;
                return true;
            }
            if (what == 2 && within(v, 0, 9999)) {
                frail = v;
                return true;
            }
            return false;
        }

        boolean livesOn(int day) {
            return day >= born && (dies == NONE || day < dies);
        }

        int yearsOn(int day) {
            return Math.max(0, day - born) / YEAR + 10 * glasses;
        }

        void copyFrom(Reader other) {
            born = other.born;
            dies = other.dies;
            glasses = other.glasses;
            kind = other.kind;
            frail = other.frail;
        }
    }

    /** A paper with what its latest reading left on it. */
    private static final class Paper {
        int number;
        int shelf;
        int written;
        int reader;
        int then;
        int times;
        int latest;
        int lease;

        void become(int number, int shelf, int day) {
            this.number = number;
            this.shelf = shelf;
            this.written = day;
            this.lease = NONE;
            becomeUnread(day);
        }

        void becomeUnread(int day) {
            reader = NONE;
            then = 0;
            times = 0;
            latest = day;
        }

        void takeReading(int by, int years, int day) {
            reader = by;
            then = years;
            times++;
            latest = day;
        }

        void copyFrom(Paper other) {
            number = other.number;
            shelf = other.shelf;
            written = other.written;
            reader = other.reader;
            then = other.then;
            times = other.times;
            latest = other.latest;
            lease = other.lease;
        }
    }

    /** The book in which each reading has a line, as long as there is room. */
    private static final class Book {
        static final int MOST = 120;
        static final int WIDTH = 5;
        static final int READER = 1;
        static final int AHEAD = 3;
        static final int BEHIND = 4;

        final int[] entries = new int[MOST * WIDTH];
        int lines = 0;

        boolean hasRoom() {
            return lines < MOST;
        }

        void write(int paper, int reader, int day, int ahead, int behind) {
            if (!hasRoom()) {
                return;
            }
            int at = lines * WIDTH;
            entries[at] = paper;
            entries[at + 1] = reader;
            entries[at + 2] = day;
            entries[at + 3] = ahead;
            entries[at + 4] = behind;
            lines++;
        }

        void dropLast() {
            if (lines > 0) {
                lines--;
            }
        }

        int entry(int line, int what) {
            boolean is = within(line, 0, lines - 1) && within(what, 0, WIDTH - 1);
            return is ? entries[line * WIDTH + what] : NONE;
        }

        int leapOf(int line) {
            return Math.abs(entry(line, BEHIND) - entry(line, AHEAD));
        }

        void copyFrom(Book other) {
            System.arraycopy(other.entries, 0, entries, 0, MOST * WIDTH);
            lines = other.lines;
        }
    }

    /** What is claimed of the ages of papers on days that are to come. */
    private static final class Claims {
        static final int MOST = 6;

        final int[] papers = new int[MOST];
        final int[] days = new int[MOST];
        final int[] least = new int[MOST];
        final int[] most = new int[MOST];
        int count = 0;

        boolean hasRoom() {
            return count < MOST;
        }

        int add(int paper, int day, int from, int to) {
            if (!hasRoom()) {
                return NONE;
            }
            papers[count] = paper;
            days[count] = day;
            least[count] = from;
            most[count] = to;
            count++;
            return count - 1;
        }

        boolean anyWentBy(int today) {
            for (int i = 0; i < count; i++) {
                if (days[i] < today) {
                    return true;
                }
            }
            return false;
        }

        void copyFrom(Claims other) {
            System.arraycopy(other.papers, 0, papers, 0, MOST);
            System.arraycopy(other.days, 0, days, 0, MOST);
            System.arraycopy(other.least, 0, least, 0, MOST);
            System.arraycopy(other.most, 0, most, 0, MOST);
            count = other.count;
        }
    }

    /** All that an image keeps. */
    private static final class Archive {
        final Reader[] readers = new Reader[READERS];
        final Paper[] papers = new Paper[PAPERS];
        final Book book = new Book();
        final Claims claims = new Claims();
        final Law law = new Law();
        final int[] facts = new int[Token.FACTS];
        int readerCount = 0;
        int paperCount = 0;
        int day = 0;
        int state = 0;
        int died = 0;

        Archive() {
            for (int i = 0; i < READERS; i++) {
                readers[i] = new Reader();
            }
            for (int i = 0; i < PAPERS; i++) {
                papers[i] = new Paper();
            }
        }

        Reader readerAt(int number) {
            return within(number, 0, readerCount - 1) ? readers[number] : null;
        }

        Paper paperAt(int number) {
            return within(number, 0, paperCount - 1) ? papers[number] : null;
        }

        int ageOf(Paper p, int on) {
            Reader by = readerAt(p.reader);
            facts[Token.THEN - Token.THEN] = p.then;
            facts[Token.NOW - Token.THEN] = by == null ? 0 : by.yearsOn(on);
            facts[Token.DUST - Token.THEN] = on - p.latest;
            facts[Token.OWN - Token.THEN] = (on - p.written) / YEAR;
            facts[Token.READ - Token.THEN] = p.times;
            facts[Token.SHELF - Token.THEN] = p.shelf;
            facts[Token.KIND - Token.THEN] = by == null ? 9 : by.kind;
            facts[Token.ALIVE - Token.THEN] = by != null && by.livesOn(on) ? 1 : 0;
            facts[Token.PAPER - Token.THEN] = p.number;
            return law.ageBy(facts);
        }

        /** Days beyond the last one count too: the document sets no bound there but 400. */
        int stayOf(Paper p) {
            int today = ageOf(p, day);
            int stay = 1;
            while (stay < LONGEST_STAY && ageOf(p, day + stay) == today) {
                stay++;
            }
            return stay;
        }

        void changeShelves(int a, int b) {
            for (int i = 0; i < paperCount; i++) {
                if (papers[i].shelf == a) {
                    papers[i].shelf = b;
                } else if (papers[i].shelf == b) {
                    papers[i].shelf = a;
                }
            }
        }

        int burn(int shelf) {
            for (int i = 0; i < paperCount; i++) {
                if (papers[i].shelf == shelf) {
                    papers[i].becomeUnread(day);
                }
            }
            return papersOn(shelf);
        }

        int papersOn(int shelf) {
            int many = 0;
            for (int i = 0; i < paperCount; i++) {
                if (papers[i].shelf == shelf) {
                    many++;
                }
            }
            return many;
        }

        int agesOn(int shelf) {
            int sum = 0;
            for (int i = 0; i < paperCount; i++) {
                if (papers[i].shelf == shelf) {
                    sum += ageOf(papers[i], day);
                }
            }
            return sum;
        }

        int endDay() {
            day++;
            int dead = drawDeaths();
            died += dead;
            passLeases();
            return dead;
        }

        private int drawDeaths() {
            int dead = 0;
            for (int i = 0; i < readerCount; i++) {
                Reader r = readers[i];
                if (r.livesOn(day) && r.frail > 0 && drawTenThousandth() < r.frail) {
                    r.dies = day;
                    dead++;
                }
            }
            return dead;
        }

        private int drawTenThousandth() {
            state = 1664525 * state + 1013904223;
            return (state >>> 8) % 10000;
        }

        private void passLeases() {
            for (int i = 0; i < paperCount; i++) {
                Reader holder = readerAt(papers[i].lease);
                if (holder != null && !holder.livesOn(day)) {
                    papers[i].lease = nextForLease();
                }
            }
        }

        int nextForLease() {
            int best = NONE;
            int most = NONE;
            for (int i = 0; i < readerCount; i++) {
                Reader r = readers[i];
                if (r.livesOn(day) && r.yearsOn(day) > most && leasesOf(i) == 0) {
                    most = r.yearsOn(day);
                    best = i;
                }
            }
            return best;
        }

        int leasesOf(int reader) {
            int many = 0;
            for (int i = 0; i < paperCount; i++) {
                if (papers[i].lease == reader) {
                    many++;
                }
            }
            return many;
        }

        int countLeaps(int kind, int n) {
            int many = 0;
            for (int i = 0; i < book.lines; i++) {
                if (isLeap(i, kind, n)) {
                    many++;
                }
            }
            return many;
        }

        int firstLeap(int kind, int n) {
            for (int i = 0; i < book.lines; i++) {
                if (isLeap(i, kind, n)) {
                    return i;
                }
            }
            return NONE;
        }

        private boolean isLeap(int line, int kind, int n) {
            Reader r = readerAt(book.entry(line, Book.READER));
            return r != null && r.kind == kind && book.leapOf(line) >= n;
        }

        void copyFrom(Archive other) {
            for (int i = 0; i < READERS; i++) {
                readers[i].copyFrom(other.readers[i]);
            }
            for (int i = 0; i < PAPERS; i++) {
                papers[i].copyFrom(other.papers[i]);
            }
            book.copyFrom(other.book);
            claims.copyFrom(other.claims);
            law.copyFrom(other.law);
            readerCount = other.readerCount;
            paperCount = other.paperCount;
            day = other.day;
            state = other.state;
            died = other.died;
        }
    }

    /** What is asked in thought: it changes its own rows alone. */
    private static final class Thought {
        /** The way of a paper that nobody need read, beside one bit for each reader. */
        static final int NOBODY = 1 << READERS;
        static final int THUMB_DAYS = 99;

        final int[] ways = new int[PAPERS];
        final Paper imagined = new Paper();
        int thumbCount = 0;
        int firstReader = NONE;
        int firstDay = NONE;

        /** Where nobody need read, it is not asked who may: nobody comes first. */
        void weigh(Archive a) {
            for (int i = 0; i < a.paperCount; i++) {
                ways[i] = claimsStand(a, a.papers[i]) ? NOBODY : 0;
                for (int r = 0; r < a.readerCount && ways[i] != NOBODY; r++) {
                    Paper p = imagine(a, a.papers[i], r, a.day);
                    if (p != null && claimsStand(a, p)) {
                        ways[i] |= 1 << r;
                    }
                }
            }
        }

        /** The paper as the reader would leave it that day, or null if he does not live then. */
        private Paper imagine(Archive a, Paper p, int reader, int on) {
            Reader r = a.readerAt(reader);
            if (r == null || !r.livesOn(on)) {
                return null;
            }
            imagined.copyFrom(p);
            imagined.takeReading(reader, r.yearsOn(on), on);
            return imagined;
        }

        private boolean claimsStand(Archive a, Paper p) {
            Claims c = a.claims;
            for (int i = 0; i < c.count; i++) {
                if (c.papers[i] == p.number
                    && !within(a.ageOf(p, c.days[i]), c.least[i], c.most[i])) {
                    return false;
                }
            }
            return true;
        }

        /** Sets are tried upwards, so that the first of the fewest is the least as a number. */
        int leastSet(Archive a) {
            int best = NONE;
            int size = READERS + 1;
            for (int set = 0; set < 1 << a.readerCount; set++) {
                if (Integer.bitCount(set) < size && suffices(a, set)) {
                    best = set;
                    size = Integer.bitCount(set);
                }
            }
            return best;
        }

        private boolean suffices(Archive a, int set) {
            for (int i = 0; i < a.paperCount; i++) {
                if ((ways[i] & (set | NOBODY)) == 0) {
                    return false;
                }
            }
            return true;
        }

        int readerOf(Archive a, int paper, int set) {
            if (!within(paper, 0, a.paperCount - 1) || (ways[paper] & NOBODY) != 0) {
                return NONE;
            }
            return Integer.numberOfTrailingZeros(ways[paper] & set);
        }

        void seekThumbs(Archive a, Paper paper, int age) {
            thumbCount = 0;
            firstReader = NONE;
            firstDay = NONE;
            int from = Math.max(paper.written, Math.max(0, a.day - THUMB_DAYS));
            for (int r = 0; r < a.readerCount; r++) {
                for (int d = from; d <= a.day; d++) {
                    Paper p = imagine(a, paper, r, d);
                    if (p != null && a.ageOf(p, a.day) == age) {
                        countThumb(r, d);
                    }
                }
            }
        }

        private void countThumb(int reader, int on) {
            if (thumbCount == 0) {
                firstReader = reader;
                firstDay = on;
            }
            thumbCount++;
        }
    }

    /** The latest readings, each as the paper was ahead of it. */
    private static final class Trail {
        static final int MOST = 10;

        final Paper[] before = new Paper[MOST];
        final boolean[] wrote = new boolean[MOST];
        int latest = 0;
        int count = 0;

        Trail() {
            for (int i = 0; i < MOST; i++) {
                before[i] = new Paper();
            }
        }

        /** A full book takes no line, and then none may be taken out of it either. */
        void keep(Paper p, boolean writes) {
            latest = (latest + 1) % MOST;
            before[latest].copyFrom(p);
            wrote[latest] = writes;
            count = Math.min(MOST, count + 1);
        }

        boolean latestWrote() {
            return wrote[latest];
        }

        Paper takeLatest() {
            Paper p = before[latest];
            latest = (latest + MOST - 1) % MOST;
            count--;
            return p;
        }

        void forget() {
            count = 0;
        }
    }

    /** The bytes that are to be a law. */
    private static final class Tape {
        static final int MOST = 400;

        final byte[] bytes = new byte[MOST];
        int count = 0;

        boolean hasRoom(int more) {
            return count + more <= MOST;
        }

        void put(int four) {
            if (!hasRoom(4)) {
                return;
            }
            bytes[count] = (byte) (four >> 24);
            bytes[count + 1] = (byte) (four >> 16);
            bytes[count + 2] = (byte) (four >> 8);
            bytes[count + 3] = (byte) four;
            count += 4;
        }

        /** NONE behind the last one, which is neither a letter nor a digit nor a blank. */
        int signAt(int place) {
            return within(place, 0, count - 1) ? bytes[place] & 255 : NONE;
        }
    }

    /**
     * Tells the tokens of a tape one by one. Kinds: words in the order of WORDS, then signs in that
     * of SIGNS.
     */
    private static final class Token {
        static final String WORDS =
            "age when or and not then now dust own read shelf kind alive paper ";
        static final String SIGNS = ";+-*/()<=>";
        static final int END = 0;
        static final int WRONG = 1;
        static final int NUMBER = 2;
        static final int AGE = 3;
        static final int WHEN = 4;
        static final int OR = 5;
        static final int AND = 6;
        static final int NOT = 7;
        static final int THEN = 8;
        static final int NOW = 9;
        static final int DUST = 10;
        static final int OWN = 11;
        static final int READ = 12;
        static final int SHELF = 13;
        static final int KIND = 14;
        static final int ALIVE = 15;
        static final int PAPER = 16;
        static final int FACTS = PAPER - THEN + 1;
        static final int SEMICOLON = 17;
        static final int PLUS = 18;
        static final int MINUS = 19;
        static final int TIMES = 20;
        static final int PART = 21;
        static final int OPEN = 22;
        static final int SHUT = 23;
        static final int LESS = 24;
        static final int SAME = 25;
        static final int MORE = 26;
        static final int MOST_DIGITS = 4;

        int place = 0;
        int after = 0;
        int kind = END;
        int value = 0;

        void begin() {
            after = 0;
        }

        void advance(Tape tape) {
            place = after;
            while (place < tape.count && isBlank(tape.signAt(place))) {
                place++;
            }
            after = place;
            int sign = tape.signAt(place);
            if (sign == NONE) {
                kind = END;
            } else if (isLetter(sign)) {
                takeWord(tape);
            } else if (isDigit(sign)) {
                takeNumber(tape);
            } else {
                takeSign(sign);
            }
        }

        private void takeWord(Tape tape) {
            while (after < tape.count && isLetter(tape.signAt(after))) {
                after++;
            }
            kind = WRONG;
            int word = AGE;
            int met = 0;
            boolean same = true;
            for (int i = 0; i < WORDS.length() && kind == WRONG; i++) {
                char c = WORDS.charAt(i);
                if (c != ' ') {
                    same = same && place + met < after && tape.signAt(place + met) == c;
                    met++;
                } else if (same && place + met == after) {
                    kind = word;
                } else {
                    word++;
                    met = 0;
                    same = true;
                }
            }
        }

        private void takeNumber(Tape tape) {
            value = 0;
            while (after < tape.count && isDigit(tape.signAt(after))) {
                value = value * 10 + tape.signAt(after) - '0';
                after++;
            }
            kind = after - place <= MOST_DIGITS ? NUMBER : WRONG;
        }

        private void takeSign(int sign) {
            int found = SIGNS.indexOf((char) sign);
            kind = found < 0 ? WRONG : SEMICOLON + found;
            after = place + 1;
        }

        private static boolean isBlank(int sign) {
            return sign == 32 || sign == 10;
        }

        private static boolean isLetter(int sign) {
            return within(sign, 'a', 'z') || within(sign, 'A', 'Z');
        }

        private static boolean isDigit(int sign) {
            return within(sign, '0', '9');
        }

        static boolean isFact(int kind) {
            return within(kind, THEN, PAPER);
        }

        static boolean isArithmetic(int kind) {
            return within(kind, PLUS, PART);
        }

        static boolean isComparison(int kind) {
            return within(kind, LESS, MORE);
        }

        /** How tightly it binds; an open parenthesis least, so that it keeps back what is below. */
        static int bindingOf(int kind) {
            switch (kind) {
                case OPEN:
                    return 0;
                case OR:
                    return 1;
                case AND:
                    return 2;
                case NOT:
                    return 3;
                case PLUS:
                case MINUS:
                    return 5;
                case TIMES:
                case PART:
                    return 6;
                default:
                    return 4;
            }
        }
    }

    /** Lines in which each sign stands behind what it works on, so that a row of ints is enough. */
    private static final class Law {
        static final int MOST_LINES = 16;
        static final int FIRST_FACT = 10000;
        /** Two joined tests wait at each of nine levels, and four values in the innermost. */
        static final int MOST_WAITING = 40;

        /** Numbers as themselves, facts above all numbers, signs as their kinds below 0. */
        final int[] code = new int[Tape.MOST];
        final int[] ageStarts = new int[MOST_LINES];
        final int[] ageEnds = new int[MOST_LINES];
        final int[] lineEnds = new int[MOST_LINES];
        final int[] waiting = new int[MOST_WAITING];
        int length = 0;
        int lines = 0;

        void clear() {
            length = 0;
            lines = 0;
        }

        boolean isFull() {
            return lines >= MOST_LINES;
        }

        void startLine() {
            if (!isFull()) {
                ageStarts[lines] = length;
            }
        }

        void endAge() {
            if (!isFull()) {
                ageEnds[lines] = length;
            }
        }

        void endLine() {
            if (!isFull()) {
                lineEnds[lines] = length;
                lines++;
            }
        }

        void addFact(int kind) {
            add(FIRST_FACT + kind - Token.THEN);
        }

        void add(int item) {
            if (length < Tape.MOST) {
                code[length] = item;
                length++;
            }
        }

        int ageBy(int[] facts) {
            for (int i = 0; i < lines; i++) {
                boolean always = ageEnds[i] == lineEnds[i];
                if (always || work(ageEnds[i], lineEnds[i], facts) != 0) {
                    return held(work(ageStarts[i], ageEnds[i], facts));
                }
            }
            return held(facts[0]);
        }

        private static int held(int age) {
            return Math.max(0, Math.min(MOST_AGE, age));
        }

        private int work(int from, int to, int[] facts) {
            int top = 0;
            for (int i = from; i < to; i++) {
                int item = code[i];
                if (item >= 0 && top < MOST_WAITING) {
                    waiting[top] = operand(item, facts);
                    top++;
                } else if (item == -Token.NOT && top >= 1) {
                    waiting[top - 1] = 1 - waiting[top - 1];
                } else if (item < 0 && top >= 2) {
                    top--;
                    waiting[top - 1] = joined(-item, waiting[top - 1], waiting[top]);
                }
            }
            return top > 0 ? waiting[0] : 0;
        }

        private static int operand(int item, int[] facts) {
            int fact = item - FIRST_FACT;
            if (fact < 0) {
                return item;
            }
            return fact < facts.length ? facts[fact] : 0;
        }

        private static int joined(int kind, int a, int b) {
            switch (kind) {
                case Token.PLUS:
                    return a + b;
                case Token.MINUS:
                    return a - b;
                case Token.TIMES:
                    return a * b;
                case Token.PART:
                    return b == 0 ? 0 : a / b;
                case Token.LESS:
                    return a < b ? 1 : 0;
                case Token.SAME:
                    return a == b ? 1 : 0;
                case Token.MORE:
                    return a > b ? 1 : 0;
                case Token.AND:
                    return a & b;
                default:
                    return a | b;
            }
        }

        void copyFrom(Law other) {
            System.arraycopy(other.code, 0, code, 0, Tape.MOST);
            System.arraycopy(other.ageStarts, 0, ageStarts, 0, MOST_LINES);
            System.arraycopy(other.ageEnds, 0, ageEnds, 0, MOST_LINES);
            System.arraycopy(other.lineEnds, 0, lineEnds, 0, MOST_LINES);
            length = other.length;
            lines = other.lines;
        }
    }

    /**
     * Reads a law token by token. What can stand next follows from what is wanted and on which side
     * of a test it stands; signs wait in a row until one that binds less lets them into the law.
     */
    private static final class LawReader {
        static final int WANT_LINE = 0;
        static final int WANT_UNIT = 1;
        static final int WANT_DIVISOR = 2;
        static final int WANT_TEST = 3;
        static final int WANT_OPERATOR = 4;
        static final int WANT_JOINT = 5;
        static final int IN_AGE = 0;
        static final int IN_LEFT = 1;
        static final int IN_RIGHT = 2;
        static final int CANNOT_STAND = 1;
        static final int PART_BY_ZERO = 2;
        static final int TOO_MANY = 3;
        static final int MOST_OPEN = 8;
        /** Eight open ones with a joint of each kind ahead, and five more in the innermost. */
        static final int MOST_SIGNS = 40;

        final Law draft = new Law();
        final Token token = new Token();
        final int[] signs = new int[MOST_SIGNS];
        int signCount = 0;
        int wanted = WANT_LINE;
        int side = IN_AGE;
        boolean over = false;
        int fault = 0;
        int faultPlace = NONE;

        boolean readAll(Tape tape) {
            begin();
            // A token has a byte at least, and behind them comes the end.
            for (int i = 0; i <= Tape.MOST && !over; i++) {
                token.advance(tape);
                switch (wanted) {
                    case WANT_LINE:
                        takeLine(token.kind);
                        break;
                    case WANT_UNIT:
                        takeUnit(token.kind);
                        break;
                    case WANT_DIVISOR:
                        takeDivisor(token.kind);
                        break;
                    case WANT_TEST:
                        takeTest(token.kind);
                        break;
                    case WANT_OPERATOR:
                        takeOperator(token.kind);
                        break;
                    default:
                        takeJoint(token.kind);
                        break;
                }
            }
            return fault == 0;
        }

        private void begin() {
            draft.clear();
            token.begin();
            signCount = 0;
            wanted = WANT_LINE;
            side = IN_AGE;
            over = false;
            fault = 0;
            faultPlace = NONE;
        }

        private void refuse(int why) {
            fault = why;
            faultPlace = token.place;
            over = true;
        }

        private void takeLine(int kind) {
            if (kind == Token.END) {
                over = true;
            } else if (kind != Token.AGE) {
                refuse(CANNOT_STAND);
            } else if (draft.isFull()) {
                refuse(TOO_MANY);
            } else {
                draft.startLine();
                side = IN_AGE;
                wanted = WANT_UNIT;
            }
        }

        private void takeUnit(int kind) {
            wanted = WANT_OPERATOR;
            if (kind == Token.NUMBER) {
                draft.add(token.value);
            } else if (Token.isFact(kind)) {
                draft.addFact(kind);
            } else {
                refuse(CANNOT_STAND);
            }
        }

        private void takeDivisor(int kind) {
            if (kind != Token.NUMBER) {
                refuse(CANNOT_STAND);
            } else if (token.value == 0) {
                refuse(PART_BY_ZERO);
            } else {
                draft.add(token.value);
                wanted = WANT_OPERATOR;
            }
        }

        private void takeTest(int kind) {
            if (kind != Token.NOT && kind != Token.OPEN) {
                side = IN_LEFT;
                takeUnit(kind);
            } else if (countWaiting(Token.NOT) + countWaiting(Token.OPEN) >= MOST_OPEN) {
                refuse(TOO_MANY);
            } else {
                putSign(kind);
            }
        }

        private void takeOperator(int kind) {
            if (Token.isArithmetic(kind)) {
                putBinding(kind);
                wanted = kind == Token.PART ? WANT_DIVISOR : WANT_UNIT;
            } else if (side == IN_LEFT && Token.isComparison(kind)) {
                putBinding(kind);
                side = IN_RIGHT;
                wanted = WANT_UNIT;
            } else if (side == IN_AGE && kind == Token.WHEN) {
                takeEndOfAge();
                wanted = WANT_TEST;
            } else if (side == IN_AGE && kind == Token.SEMICOLON) {
                takeEndOfAge();
                takeEndOfLine();
            } else if (side == IN_RIGHT) {
                takeJoint(kind);
            } else {
                refuse(CANNOT_STAND);
            }
        }

        private void takeEndOfAge() {
            releaseFrom(0);
            draft.endAge();
        }

        private void takeEndOfLine() {
            releaseFrom(0);
            draft.endLine();
            wanted = WANT_LINE;
        }

        private void takeJoint(int kind) {
            boolean inside = countWaiting(Token.OPEN) > 0;
            if (kind == Token.AND || kind == Token.OR) {
                putBinding(kind);
                wanted = WANT_TEST;
            } else if (kind == Token.SHUT && inside) {
                releaseFrom(1);
                signCount--;
                wanted = WANT_JOINT;
            } else if (kind == Token.SEMICOLON && !inside) {
                takeEndOfLine();
            } else {
                refuse(CANNOT_STAND);
            }
        }

        private int countWaiting(int kind) {
            int many = 0;
            for (int i = 0; i < signCount; i++) {
                if (signs[i] == kind) {
                    many++;
                }
            }
            return many;
        }

        private void putBinding(int kind) {
            releaseFrom(Token.bindingOf(kind));
            putSign(kind);
        }

        private void putSign(int kind) {
            if (signCount < MOST_SIGNS) {
                signs[signCount] = kind;
                signCount++;
            }
        }

        /** Lets the latest signs into the law as long as they bind so tightly at least. */
        private void releaseFrom(int binding) {
            while (signCount > 0 && Token.bindingOf(signs[signCount - 1]) >= binding) {
                signCount--;
                draft.add(-signs[signCount]);
            }
        }
    }
}

import java.util.ArrayDeque;
import java.util.ArrayList;
import java.util.Deque;
import java.util.List;

/**
 * The document once more, told in another way (a tree of functions, copies instead of rows), so
 * that OracleTest can hold PaperAger against it. It has the face of PaperAger, in one call by name.
 */
final class Model {
    record Facts(int then, int now, int dust, int own, int read, int shelf, int kind, int alive, int paper) { }

    interface Value { int of(Facts f); }

    interface Test { boolean of(Facts f); }

    record Line(Value age, Test when) { }

    static final class Fault extends Exception {
        final int kind;
        final int place;

        Fault(int kind, int place) {
            super(null, null, false, false);
            this.kind = kind;
            this.place = place;
        }
    }

    static final class R implements Cloneable {
        int born, dies, glasses, kind, frail;

        boolean lives(int d) {
            if (d < born) return false;
            return dies < 0 || d < dies;
        }

        int years(int d) {
            int y = Math.floorDiv(d - born, 365);
            if (y < 0) y = 0;
            return glasses == 1 ? y + 10 : y;
        }

        R copy() {
            try { return (R) clone(); } catch (CloneNotSupportedException e) { throw new AssertionError(e); }
        }
    }

    static final class P implements Cloneable {
        int number, shelf, written, reader = -1, then, read, last, lease = -1;

        P copy() {
            try { return (P) clone(); } catch (CloneNotSupportedException e) { throw new AssertionError(e); }
        }
    }

    /** What an image holds. */
    static final class World {
        int day, state, died;
        List<R> readers = new ArrayList<>();
        List<P> papers = new ArrayList<>();
        List<int[]> book = new ArrayList<>();
        List<int[]> claims = new ArrayList<>();
        List<Line> law = new ArrayList<>();

        World copy() {
            World w = new World();
            w.day = day; w.state = state; w.died = died;
            for (R r : readers) w.readers.add(r.copy());
            for (P p : papers) w.papers.add(p.copy());
            w.book.addAll(book);
            w.claims.addAll(claims);
            w.law.addAll(law);
            return w;
        }

        boolean hasReader(int r) { return r >= 0 && r < readers.size(); }

        boolean hasPaper(int p) { return p >= 0 && p < papers.size(); }

        int age(P p, int d) {
            boolean by = p.reader >= 0;
            R r = by ? readers.get(p.reader) : null;
            Facts f = new Facts(p.then, by ? r.years(d) : 0, d - p.last, Math.floorDiv(d - p.written, 365), p.read,
                p.shelf, by ? r.kind : 9, by && r.lives(d) ? 1 : 0, p.number);
            for (Line l : law) {
                if (l.when == null || l.when.of(f)) return Math.min(999, Math.max(0, l.age.of(f)));
            }
            return p.then;
        }

        P readBy(P p, int r, int d) {
            P q = p.copy();
            q.reader = r; q.then = readers.get(r).years(d); q.read++; q.last = d;
            return q;
        }

        int next() {
            int best = -1;
            for (int i = readers.size() - 1; i >= 0; i--) {
                R r = readers.get(i);
                if (!r.lives(day)) continue;
                boolean has = false;
                for (P p : papers) has |= p.lease == i;
                if (has) continue;
                if (best < 0 || r.years(day) >= readers.get(best).years(day)) best = i;
            }
            return best;
        }
    }

    World w = new World();
    World image;
    List<Integer> tape = new ArrayList<>();
    int fault = 0, faultPlace = -1;
    record Undo(P before, boolean wrote) { }
    Deque<Undo> undo = new ArrayDeque<>();

    static boolean in(int v, int a, int b) { return a <= v && v <= b; }

    static int bit(boolean b) { return b ? 1 : 0; }

    int call(String name, int... a) {
        return switch (name) {
            case "state" -> { int s = w.state; w.state = a[0]; yield s; }
            case "reader" -> reader(a);
            case "set" -> bit(set(a[0], a[1], a[2]));
            case "paper" -> paper(a[0]);
            case "move" -> {
                if (!w.hasPaper(a[0]) || !in(a[1], 0, 4)) yield 0;
                undo.clear(); w.papers.get(a[0]).shelf = a[1]; yield 1;
            }
            case "swap" -> {
                if (!in(a[0], 0, 4) || !in(a[1], 0, 4) || a[0] == a[1]) yield 0;
                undo.clear();
                for (P p : w.papers) p.shelf = p.shelf == a[0] ? a[1] : p.shelf == a[1] ? a[0] : p.shelf;
                yield 1;
            }
            case "fire" -> fire(a[0]);
            case "read" -> read(a[0], a[1]);
            case "lease" -> {
                if (!w.hasPaper(a[0])) yield 0;
                if (a[1] != -1 && (!w.hasReader(a[1]) || !w.readers.get(a[1]).lives(w.day))) yield 0;
                undo.clear(); w.papers.get(a[0]).lease = a[1]; yield 1;
            }
            case "days" -> days(a[0]);
            case "feed" -> {
                if (tape.size() > 380) yield -1;
                for (int v : a) for (int s = 24; s >= 0; s -= 8) tape.add((v >>> s) & 255);
                yield tape.size();
            }
            case "end" -> {
                if (a[0] < 0 || a[0] > tape.size()) yield 0;
                tape = new ArrayList<>(tape.subList(0, a[0])); yield 1;
            }
            case "text" -> text();
            case "fault" -> a[0] == 0 ? fault : a[0] == 1 ? faultPlace : -1;
            case "age" -> w.hasPaper(a[0]) && in(a[1], w.day, 9999) ? w.age(w.papers.get(a[0]), a[1]) : -1;
            case "of" -> of(a[0], a[1]);
            case "who" -> who(a[0], a[1]);
            case "book" -> in(a[0], 0, w.book.size() - 1) && in(a[1], 0, 4) ? w.book.get(a[0])[a[1]] : -1;
            case "claim" -> {
                if (!w.hasPaper(a[0]) || !in(a[1], w.day, 9999) || a[2] < 0 || a[3] > 999 || a[3] < a[2]) yield -1;
                if (w.claims.size() == 6) yield -1;
                w.claims.add(a.clone()); yield w.claims.size() - 1;
            }
            case "fewest" -> fewest(a[0]);
            case "thumbs" -> thumbs(a[0], a[1], a[2]);
            case "leaps" -> leaps(a[0], a[1], a[2]);
            case "next" -> w.next();
            case "close" -> close();
            case "mean" -> {
                int sum = 0, n = 0;
                for (P p : w.papers) if (p.shelf == a[0]) { n++; sum += w.age(p, w.day); }
                yield n == 0 ? -1 : sum / n;
            }
            case "undo" -> {
                if (undo.isEmpty()) yield 0;
                Undo u = undo.removeLast();
                w.papers.set(u.before.number, u.before);
                if (u.wrote) w.book.remove(w.book.size() - 1);
                yield 1;
            }
            case "image" -> {
                if (a[0] == 1) { image = w.copy(); yield 1; }
                if (image == null) yield 0;
                w = image.copy(); undo.clear(); yield 1;
            }
            case "look" -> switch (a[0]) {
                case 0 -> w.day;
                case 1 -> w.readers.size();
                case 2 -> w.papers.size();
                case 3 -> w.book.size();
                case 4 -> w.claims.size();
                case 5 -> w.state;
                case 6 -> w.law.size();
                case 7 -> undo.size();
                case 8 -> w.died;
                default -> -1;
            };
            default -> throw new AssertionError(name);
        };
    }

    private int reader(int[] a) {
        if (!in(a[0], -36500, 9999) || !in(a[1], -1, 9999) || !in(a[2], 0, 1) || !in(a[3], 0, 3)) return -1;
        if (w.readers.size() == 12) return -1;
        R r = new R();
        r.born = a[0]; r.dies = a[1]; r.glasses = a[2]; r.kind = a[3];
        w.readers.add(r);
        undo.clear();
        return w.readers.size() - 1;
    }

    private boolean set(int reader, int what, int v) {
        if (!w.hasReader(reader)) return false;
        R r = w.readers.get(reader);
        if (what == 0) { if (v != -1 && !in(v, w.day, 9999)) return false; r.dies = v; }
        else if (what == 1) { if (!in(v, 0, 1)) return false; r.glasses = v; }
        else if (what == 2) { if (!in(v, 0, 9999)) return false; r.frail = v; }
        else return false;
        undo.clear();
        return true;
    }

    private int paper(int shelf) {
        if (!in(shelf, 0, 4) || w.papers.size() == 12) return -1;
        P p = new P();
        p.number = w.papers.size(); p.shelf = shelf; p.written = w.day; p.last = w.day;
        w.papers.add(p);
        undo.clear();
        return p.number;
    }

    private int fire(int shelf) {
        if (!in(shelf, 0, 4)) return -1;
        undo.clear();
        int n = 0;
        for (P p : w.papers) {
            if (p.shelf != shelf) continue;
            n++;
            p.reader = -1; p.then = 0; p.read = 0; p.last = w.day;
        }
        return n;
    }

    private int read(int paper, int reader) {
        if (!w.hasPaper(paper) || !w.hasReader(reader) || !w.readers.get(reader).lives(w.day)) return -1;
        P old = w.papers.get(paper);
        P now = w.readBy(old, reader, w.day);
        int ahead = w.age(old, w.day), behind = w.age(now, w.day);
        boolean wrote = w.book.size() < 120;
        if (wrote) w.book.add(new int[] {paper, reader, w.day, ahead, behind});
        w.papers.set(paper, now);
        undo.addLast(new Undo(old, wrote));
        if (undo.size() > 10) undo.removeFirst();
        return behind;
    }

    private int days(int n) {
        if (!in(n, 1, 400) || w.day + n > 9999) return -1;
        undo.clear();
        int dead = 0;
        for (int k = 0; k < n; k++) {
            w.day++;
            for (R r : w.readers) {
                if (!r.lives(w.day) || r.frail <= 0) continue;
                w.state = w.state * 1664525 + 1013904223;
                long top = (w.state & 0xFFFFFFFFL) / 256;
                if (top % 10000 < r.frail) { r.dies = w.day; dead++; w.died++; }
            }
            for (P p : w.papers) {
                if (p.lease >= 0 && !w.readers.get(p.lease).lives(w.day)) p.lease = w.next();
            }
        }
        return dead;
    }

    private int text() {
        byte[] b = new byte[tape.size()];
        for (int i = 0; i < b.length; i++) b[i] = (byte) (int) tape.get(i);
        tape.clear();
        fault = 0; faultPlace = -1;
        try {
            w.law = new Grammar(new String(b, java.nio.charset.StandardCharsets.ISO_8859_1)).law();
        } catch (Fault f) {
            fault = f.kind; faultPlace = f.place;
            return -1;
        }
        return w.law.size();
    }

    private int of(int paper, int what) {
        if (!w.hasPaper(paper)) return -2;
        P p = w.papers.get(paper);
        switch (what) {
            case 0: return p.shelf;
            case 1: return p.written;
            case 2: return p.reader;
            case 3: return p.then;
            case 4: return p.read;
            case 5: return p.last;
            case 6: return p.lease;
            case 7:
                int n = 0;
                for (int d = w.day; d < w.day + 400; d++) {
                    if (w.age(p, d) != w.age(p, w.day)) break;
                    n++;
                }
                return n;
            default: return -2;
        }
    }

    private int who(int reader, int what) {
        if (!w.hasReader(reader) || !in(what, 0, 7)) return -100000;
        R r = w.readers.get(reader);
        int leases = 0;
        for (P p : w.papers) if (p.lease == reader) leases++;
        return new int[] {r.born, r.dies, r.glasses, r.kind, r.frail, bit(r.lives(w.day)), r.years(w.day), leases}[what];
    }

    private boolean stands(P p) {
        for (int[] c : w.claims) if (c[0] == p.number && !in(w.age(p, c[1]), c[2], c[3])) return false;
        return true;
    }

    /** Who of the set may read it, none as -1, nobody fit as -2. */
    private int readerOf(P p, int set) {
        if (stands(p)) return -1;
        for (int r = 0; r < w.readers.size(); r++) {
            if ((set >> r & 1) == 1 && w.readers.get(r).lives(w.day) && stands(w.readBy(p, r, w.day))) return r;
        }
        return -2;
    }

    private int fewest(int what) {
        for (int[] c : w.claims) if (c[1] < w.day) return -1;
        if (what != 0 && !in(what, 10, 21)) return -1;
        for (int size = 0; size <= w.readers.size(); size++) {
            for (int set = 0; set < 1 << w.readers.size(); set++) {
                if (Integer.bitCount(set) != size) continue;
                boolean all = true;
                for (P p : w.papers) all = all && readerOf(p, set) != -2;
                if (!all) continue;
                if (what == 0) return set;
                return w.hasPaper(what - 10) ? readerOf(w.papers.get(what - 10), set) : -1;
            }
        }
        return -1;
    }

    private int thumbs(int paper, int age, int what) {
        if (!w.hasPaper(paper) || !in(age, 0, 999) || !in(what, 0, 2)) return -1;
        int[] first = null;
        int n = 0;
        P p = w.papers.get(paper);
        for (int r = 0; r < w.readers.size(); r++) {
            for (int d = 0; d <= w.day; d++) {
                if (d < w.day - 99 || d < p.written || !w.readers.get(r).lives(d)) continue;
                if (w.age(w.readBy(p, r, d), w.day) != age) continue;
                n++;
                if (first == null) first = new int[] {n, r, d};
            }
        }
        if (what == 0) return n;
        return first == null ? -1 : first[what];
    }

    private int leaps(int kind, int n, int what) {
        if (!in(kind, 0, 3) || !in(n, 0, 999) || !in(what, 0, 1)) return -1;
        List<Integer> found = new ArrayList<>();
        for (int i = 0; i < w.book.size(); i++) {
            int[] l = w.book.get(i);
            if (w.readers.get(l[1]).kind == kind && Math.abs(l[3] - l[4]) >= n) found.add(i);
        }
        if (what == 0) return found.size();
        return found.isEmpty() ? -1 : found.get(0);
    }

    private int close() {
        int best = -1, most = -1;
        for (int s = 0; s < 5; s++) {
            int sum = 0;
            boolean any = false;
            for (P p : w.papers) if (p.shelf == s) { any = true; sum += w.age(p, w.day); }
            if (any && sum > most) { most = sum; best = s; }
        }
        return best;
    }

    /** A reader of laws by descent. */
    static final class Grammar {
        record Tok(String word, int place) { }

        static final List<String> WORDS = List.of("age", "when", "or", "and", "not", "then", "now", "dust", "own", "read",
            "shelf", "kind", "alive", "paper");
        final List<Tok> toks = new ArrayList<>();
        int at = 0;
        int open = 0;

        Grammar(String text) {
            java.util.regex.Matcher m =
                java.util.regex.Pattern.compile("[A-Za-z]+|[0-9]+|[^ \n]", java.util.regex.Pattern.DOTALL).matcher(text);
            while (m.find()) {
                String s = m.group();
                boolean good = s.matches("[0-9]{1,4}") || WORDS.contains(s) || (s.length() == 1 && ";+-*/()<=>".contains(s));
                toks.add(new Tok(good ? s : "?", m.start()));
            }
            toks.add(new Tok("", text.length()));
        }

        String peek() { return toks.get(at).word; }

        int place() { return toks.get(at).place; }

        boolean take(String s) {
            if (!peek().equals(s)) return false;
            at++;
            return true;
        }

        void need(String s) throws Fault { if (!take(s)) throw new Fault(1, place()); }

        List<Line> law() throws Fault {
            List<Line> lines = new ArrayList<>();
            while (!peek().isEmpty()) {
                int p = place();
                need("age");
                if (lines.size() == 16) throw new Fault(3, p);
                Value v = e();
                Test t = take("when") ? b() : null;
                need(";");
                lines.add(new Line(v, t));
            }
            return lines;
        }

        Test b() throws Fault {
            Test x = a();
            while (take("or")) { Test l = x, r = a(); x = f -> l.of(f) || r.of(f); }
            return x;
        }

        Test a() throws Fault {
            Test x = c();
            while (take("and")) { Test l = x, r = c(); x = f -> l.of(f) && r.of(f); }
            return x;
        }

        Test c() throws Fault {
            int p = place();
            if (take("not")) {
                if (open == 8) throw new Fault(3, p);
                open++;
                Test t = c();
                open--;
                return f -> !t.of(f);
            }
            if (take("(")) {
                if (open == 8) throw new Fault(3, p);
                open++;
                Test t = b();
                need(")");
                open--;
                return t;
            }
            Value l = e();
            String op = peek();
            if (!(take("<") || take("=") || take(">"))) throw new Fault(1, place());
            Value r = e();
            return f -> op.equals("<") ? l.of(f) < r.of(f) : op.equals("=") ? l.of(f) == r.of(f) : l.of(f) > r.of(f);
        }

        Value e() throws Fault {
            Value x = t();
            while (true) {
                Value l = x;
                if (take("+")) { Value r = t(); x = f -> l.of(f) + r.of(f); }
                else if (take("-")) { Value r = t(); x = f -> l.of(f) - r.of(f); }
                else return x;
            }
        }

        Value t() throws Fault {
            Value x = u();
            while (true) {
                Value l = x;
                if (take("*")) { Value r = u(); x = f -> l.of(f) * r.of(f); }
                else if (take("/")) {
                    if (!peek().matches("[0-9]+")) throw new Fault(1, place());
                    int n = Integer.parseInt(peek());
                    if (n == 0) throw new Fault(2, place());
                    at++;
                    x = f -> l.of(f) / n;
                }
                else return x;
            }
        }

        Value u() throws Fault {
            String s = peek();
            if (s.matches("[0-9]+")) { at++; int n = Integer.parseInt(s); return f -> n; }
            Value v = switch (s) {
                case "then" -> Facts::then;
                case "now" -> Facts::now;
                case "dust" -> Facts::dust;
                case "own" -> Facts::own;
                case "read" -> Facts::read;
                case "shelf" -> Facts::shelf;
                case "kind" -> Facts::kind;
                case "alive" -> Facts::alive;
                case "paper" -> Facts::paper;
                default -> null;
            };
            if (v == null) throw new Fault(1, place());
            at++;
            return v;
        }
    }
}

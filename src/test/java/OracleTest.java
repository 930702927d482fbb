import java.util.ArrayList;
import java.util.List;
import java.util.Random;

/** Runs of random calls, by fixed seeds, on PaperAger and on Model: each answer must be the same. */
public final class OracleTest {
    private static final int CALLS = 512;

    private final Random random;
    private final PaperAger x = new PaperAger();
    private final Model model = new Model();
    private final List<String> said = new ArrayList<>();
    private boolean wrong = false;
    /** One run in several is dense in readings, one in days, one in texts, one in claims. */
    private final int taste;

    private OracleTest(long seed) {
        random = new Random(seed);
        taste = random.nextInt(5);
    }

    public static void main(String[] args) {
        int runs = args.length > 0 ? Integer.parseInt(args[0]) : 3000;
        long from = args.length > 1 ? Long.parseLong(args[1]) : 1;
        int bad = 0;
        for (long seed = from; seed < from + runs && bad < 5; seed++) {
            OracleTest t = new OracleTest(seed);
            t.run();
            if (t.wrong) {
                bad++;
                System.out.println("seed " + seed + ": " + t.said.get(t.said.size() - 1));
            }
        }
        System.out.println(bad == 0 ? runs + " runs are as the model" : bad + " runs are not as the model");
        if (bad != 0) System.exit(1);
    }

    private void run() {
        if (random.nextInt(4) > 0) settle();
        while (said.size() < CALLS && !wrong) step();
    }

    private void settle() {
        int n = random.nextInt(13);
        int latest = taste == 4 ? 0 : 9999;
        for (int i = 0; i < n; i++) {
            call("reader", latest - random.nextInt(latest + 36501), -1, random.nextInt(2), random.nextInt(4));
        }
        n = random.nextInt(13);
        for (int i = 0; i < n; i++) call("paper", random.nextInt(5));
        law();
    }

    private void step() {
        int k = random.nextInt(100);
        if (taste == 1 && k < 60) { call("read", paper(), reader()); return; }
        if (taste == 2 && k < 20) { call("days", random.nextInt(3) == 0 ? 400 : 1 + random.nextInt(40)); return; }
        if (taste == 3 && k < 20) { law(); return; }
        if (taste == 4 && k < 30) { fitting(); return; }
        if (k == 99) { fill(); return; }
        switch (random.nextInt(34)) {
            case 0: call("state", random.nextInt()); break;
            case 1: call("reader", born(), random.nextBoolean() ? -1 : day(), edge(0, 1), edge(0, 3)); break;
            case 2: call("set", reader(), edge(0, 2), v()); break;
            case 3: call("paper", edge(0, 4)); break;
            case 4: call("move", paper(), edge(0, 4)); break;
            case 5: call("swap", edge(0, 4), edge(0, 4)); break;
            case 6: call("fire", edge(0, 4)); break;
            case 7: case 8: case 9: call("read", paper(), reader()); break;
            case 10: case 11: call("lease", paper(), reader()); break;
            case 12: call("days", random.nextInt(4) == 0 ? edge(1, 400) : 1 + random.nextInt(5)); break;
            case 13: call("feed", random.nextInt(), random.nextInt(), 0x61676520, 0x313B2020, random.nextInt()); break;
            case 14: call("end", random.nextInt(420) - 10); break;
            case 15: call("text"); break;
            case 16: call("fault", edge(0, 1)); break;
            case 17: call("age", paper(), day()); break;
            case 18: call("of", paper(), edge(0, 7)); break;
            case 19: call("who", reader(), edge(0, 7)); break;
            case 20: call("book", edge(0, Math.max(0, x.look(3) - 1)), edge(0, 4)); break;
            case 21: case 22: claim(); break;
            case 23: call("fewest", 0); break;
            case 24: call("fewest", edge(9, 22)); break;
            case 25: thumbs(); break;
            case 26: call("leaps", edge(0, 3), random.nextBoolean() ? edge(0, 40) : edge(0, 999), edge(0, 1)); break;
            case 27: call("next"); break;
            case 28: call("close"); break;
            case 29: call("mean", edge(0, 4)); break;
            case 30: call("undo"); break;
            case 31: call("image", random.nextInt(3) == 0 ? 0 : 1); break;
            case 32: law(); break;
            default: call("look", edge(0, 8)); break;
        }
    }

    private void claim() {
        int p = paper();
        int d = day();
        int a = x.age(p, d);
        if (a >= 0 && random.nextInt(3) > 0) {
            int spread = random.nextInt(30);
            call("claim", p, d, Math.max(0, a - spread + random.nextInt(20)), Math.min(999, a + spread + random.nextInt(20)));
        } else {
            call("claim", p, d, edge(0, 999), edge(0, 999));
        }
    }

    /** Claims that some reader could meet, on a fresh image, so that sets of several readers come up. */
    private void fitting() {
        call("image", 1);
        int n = 1 + random.nextInt(5);
        for (int i = 0; i < n; i++) fittingClaim();
        call("fewest", 0);
        for (int p = 0; p < 3; p++) call("fewest", 10 + random.nextInt(12));
        call("image", 0);
    }

    private void fittingClaim() {
        int p = paper();
        int r = reader();
        if (!model.w.hasPaper(p) || !model.w.hasReader(r)) return;
        int d = Math.min(9999, x.look(0) + random.nextInt(400));
        int a = model.w.age(model.w.readBy(model.w.papers.get(p), r, x.look(0)), d);
        call("claim", p, d, Math.max(0, a - random.nextInt(3)), Math.min(999, a + random.nextInt(3)));
    }

    /** More than the tape can hold. */
    private void fill() {
        int n = random.nextInt(22);
        for (int i = 0; i < n; i++) call("feed", 0x20202020, 0x61676520, 0x6E6F773B, 0x0A202020, 0x20202020);
        call("end", random.nextInt(420) - 10);
        call("feed", 0x61676520, 0x313B2020, 0x20202020, 0x20202020, 0x20202020);
        call("text");
        call("fault", 0);
        call("fault", 1);
    }

    private void thumbs() {
        int p = paper();
        int a = x.age(p, x.look(0));
        int what = edge(0, 2);
        call("thumbs", p, random.nextInt(4) == 0 ? edge(0, 999) : Math.max(0, a + random.nextInt(5) - 2), what);
    }

    private int edge(int least, int most) {
        int k = random.nextInt(16);
        if (k == 0) return least - 1;
        if (k == 1) return most + 1;
        if (k == 2) return least;
        if (k == 3) return most;
        if (random.nextInt(60) == 0) return random.nextInt();
        return least + random.nextInt(most - least + 1);
    }

    private int paper() { return edge(0, Math.max(0, x.look(2) - 1)); }

    private int reader() { return edge(0, Math.max(0, x.look(1) - 1)); }

    private int born() { return random.nextInt(3) == 0 ? x.look(0) + random.nextInt(200) - 100 : edge(-36500, 9999); }

    private int day() {
        int k = random.nextInt(10);
        if (k == 0) return edge(0, 9999);
        return x.look(0) + (k < 5 ? random.nextInt(4) - 1 : random.nextInt(800));
    }

    private int v() {
        switch (random.nextInt(6)) {
            case 0: return random.nextInt(2);
            case 1: return -1;
            case 2: return day();
            case 3: return random.nextInt(100);
            default: return edge(0, 9999);
        }
    }

    private void law() {
        String s = text();
        if (s.length() > 400) s = s.substring(0, 400);
        call("end", 0);
        int fed = 0;
        while (fed < s.length()) {
            int[] five = new int[5];
            for (int i = 0; i < 20; i++) {
                int c = fed + i < s.length() ? s.charAt(fed + i) : 32;
                five[i / 4] = five[i / 4] << 8 | c;
            }
            call("feed", five);
            fed += 20;
        }
        if (random.nextInt(4) > 0) call("end", s.length());
        call("text");
        call("fault", 0);
        call("fault", 1);
    }

    private String text() {
        StringBuilder b = new StringBuilder();
        int lines = random.nextInt(12) == 0 ? 15 + random.nextInt(4) : random.nextInt(5);
        for (int i = 0; i < lines; i++) {
            b.append("age ");
            if (lines > 10) b.append(random.nextInt(99));
            else sum(b);
            if (lines < 10 && random.nextInt(3) > 0) {
                b.append(" when ");
                any(b, 0);
            }
            b.append(random.nextInt(4) == 0 ? " ;\n" : ";");
        }
        int hurts = random.nextInt(3) == 0 ? 1 + random.nextInt(2) : 0;
        for (int i = 0; i < hurts && b.length() > 0; i++) hurt(b);
        return b.toString();
    }

    private void hurt(StringBuilder b) {
        int at = random.nextInt(b.length());
        String[] parts = {"age", "when ", " or ", " and ", " not ", "(", ")", ";", "/0", "/ 12345", "\t", "0", "then", "<",
            "=", "*", "-", "x", "A", "\u00e9", "\0", " ", "\n", "(((((((((", "not not not not not not not not not "};
        if (random.nextInt(3) == 0) b.deleteCharAt(at);
        else b.insert(at, parts[random.nextInt(parts.length)]);
        if (b.length() == 0) b.append(' ');
    }

    private void sum(StringBuilder b) {
        product(b);
        while (random.nextInt(3) == 0) {
            b.append(random.nextBoolean() ? "+" : " - ");
            product(b);
        }
    }

    private void product(StringBuilder b) {
        unit(b);
        while (random.nextInt(3) == 0) {
            if (random.nextBoolean()) {
                b.append("*");
                unit(b);
            } else {
                b.append("/").append(random.nextInt(30) == 0 ? 0 : 1 + random.nextInt(20));
            }
        }
    }

    private void unit(StringBuilder b) {
        String[] names = {"then", "now", "dust", "own", "read", "shelf", "kind", "alive", "paper"};
        if (random.nextInt(3) == 0) b.append(random.nextInt(5) == 0 ? random.nextInt(10000) : random.nextInt(50));
        else b.append(names[random.nextInt(names.length)]);
    }

    private void any(StringBuilder b, int depth) {
        all(b, depth);
        while (random.nextInt(4) == 0) {
            b.append(" or ");
            all(b, depth);
        }
    }

    private void all(StringBuilder b, int depth) {
        one(b, depth);
        while (random.nextInt(4) == 0) {
            b.append(" and ");
            one(b, depth);
        }
    }

    private void one(StringBuilder b, int depth) {
        int k = random.nextInt(depth > 9 ? 1 : 4);
        if (k == 3) {
            b.append("not ");
            one(b, depth + 1);
        } else if (k == 2) {
            b.append("(");
            any(b, depth + 1);
            b.append(")");
        } else {
            sum(b);
            b.append("<=>".charAt(random.nextInt(3)));
            sum(b);
        }
    }

    private void call(String name, int... a) {
        if (wrong || said.size() == CALLS) return;
        int want = model.call(name, a);
        int got = Face.call(x, name, a);
        said.add(name + java.util.Arrays.toString(a) + " answered " + got + ", due is " + want);
        wrong = got != want;
    }
}

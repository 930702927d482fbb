import java.util.ArrayList;
import java.util.Arrays;
import java.util.List;
import java.util.Random;

/**
 * Every call with numbers at, just inside, just outside and far outside of each boundary that the
 * document names, on archives that are empty, usual, full and at the last day: nothing may be
 * thrown, and each answer must be that of Model.
 */
public final class WildTest {
    private static final int[] NUMBERS = {Integer.MIN_VALUE, Integer.MIN_VALUE + 1, -100000, -36501, -36500, -400, -100, -3,
        -2, -1, 0, 1, 2, 3, 4, 5, 6, 7, 8,
        9, 10, 11, 12, 13, 20, 21, 22, 98, 99, 100, 119, 120, 121, 380, 399, 400, 401, 998, 999, 1000, 9998, 9999, 10000,
            10001, 65535, 65536,
        Integer.MAX_VALUE - 400, Integer.MAX_VALUE - 1, Integer.MAX_VALUE};
    private static final String[] FACE = {"state 1", "reader 4", "set 3", "paper 1", "move 2", "swap 2", "fire 1", "read 2",
        "lease 2", "days 1", "feed 5", "end 1", "text 0", "fault 1",
        "age 2", "of 2", "who 2", "book 2", "claim 4", "fewest 1", "thumbs 3", "leaps 3", "next 0", "close 0", "mean 1",
            "undo 0", "look 1"};
    private static final int MOST_CALLS = 512;
    private static final int LONGER = 1500;

    private final Random random;
    private PaperAger x;
    private Model model;
    private int calls;
    private int wrong = 0;
    private long all = 0;

    private WildTest(long seed) {
        random = new Random(seed);
    }

    public static void main(String[] args) {
        WildTest t = new WildTest(29);
        for (int archive = 0; archive < 4; archive++) {
            for (String f : FACE) t.tryAll(archive, f.split(" ")[0], f.charAt(f.length() - 1) - '0');
        }
        System.out.println(t.wrong == 0 ? t.all + " calls are as the model" : t.wrong + " calls are not as the model");
        if (t.wrong != 0) System.exit(1);
    }

    private void tryAll(int archive, String name, int count) {
        begin(archive);
        for (int[] a : numbers(count)) {
            if (calls == MOST_CALLS) begin(archive);
            call(name, a);
        }
    }

    /** All pairs; of three and more numbers so many by lot, most of them small. */
    private List<int[]> numbers(int count) {
        List<int[]> list = new ArrayList<>();
        if (count == 0) list.add(new int[0]);
        for (int a : NUMBERS) {
            if (count == 1) list.add(new int[] {a});
            for (int b : NUMBERS) if (count == 2) list.add(new int[] {a, b});
        }
        for (int i = 0; i < LONGER && count > 2; i++) {
            int[] n = new int[count];
            for (int k = 0; k < count; k++) n[k] = random.nextInt(3) > 0 ? random.nextInt(4) - 1
                : NUMBERS[random.nextInt(NUMBERS.length)];
            list.add(n);
        }
        return list;
    }

    private void begin(int archive) {
        x = new PaperAger();
        model = new Model();
        calls = 0;
        if (archive == 0) return;
        int many = archive == 1 ? 3 : 12;
        for (int i = 0; i < many; i++) call("reader", -1000 * i, i == 1 ? 2 : -1, i % 2, i % 4);
        for (int i = 0; i < many; i++) call("paper", i % 5);
        call("feed", 0x61676520, 0x7468656E, 0x202B2064, 0x7573742F, 0x37202020);
        call("feed", 0x20202020, 0x2B207265, 0x61643B20, 0x20202020, 0x20202020);
        call("text");
        for (int i = 0; archive == 3 && i < 25; i++) call("days", i < 24 ? 400 : 399);
        for (int i = 0; i < many * 11; i++) call("read", i % many, i / 11);
        for (int i = 0; i < many / 2; i++) call("claim", i, 9999, 20 * i, 900);
        for (int i = 0; i < many; i++) call("lease", i, i);
        if (archive > 1) for (int i = 0; i < 20; i++) call("feed", 0x20202020, 0x20202020, 0x20202020, 0x20202020,
            0x20202020);
    }

    private void call(String name, int... a) {
        calls++;
        all++;
        int want = model.call(name, a);
        String got;
        try {
            got = "" + Face.call(x, name, a);
        } catch (RuntimeException | StackOverflowError e) {
            got = e.toString();
        }
        if (!got.equals("" + want)) {
            wrong++;
            if (wrong <= 20) System.out.println(name + Arrays.toString(a) + " answered " + got + ", due is " + want);
        }
    }
}

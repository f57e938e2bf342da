import java.util.Arrays;
import java.util.Random;

/**
 * Long runs of random calls: an object answers as a new one would that was only told what stands at last,
 * calls that are refused change nothing, and no argument makes a call throw. To see all that stands, objects are
 * asked more often here than the 512 times of the document: the program counts no calls.
 */
public final class HistoryTest {
    private static final String[] TEXTS = {"", "!A", "!B", "!F", "@a", "@b", "@c@d", "T{@b}A{}", "T{@c}A{^}B{+0}Z{-0}",
        "?{!A}{@a}", "?{!C}{+0@d}", "T{@a}Z{@b}", "T{@d}Z{.}", "*{@a}+1", "*{?{+0}{@c}}", "T{@a}A{T{^}B{}Z{@c}}C{!D}",
        "T{@b@c}F{.}E{@d}Z{?{}{!E}}", "{", "T{}", "^", "!A!", "*{*{*{*{*{*{*{*{*{}", "T{!A}A{}A{}A{}A{}A{}A{}A{}"};
    private static final int[] ODD = {Integer.MIN_VALUE, -100, -2, -1, 6, 7, 8, 60, 61, 64, 99, 160, Integer.MAX_VALUE};

    private final Random random;
    private final WaysOut x = new WaysOut();
    private final String[] texts = new String[8];
    private final int[] parent = {-1, -1, -1, -1, -1, -1};
    private final int[] promised = new int[8];

    private HistoryTest(int seed) {
        random = new Random(seed);
        Arrays.fill(texts, "");
    }

    public static void main(String[] args) {
        for (int seed = 0; seed < 60; seed++) {
            new HistoryTest(seed).go();
        }
        for (int seed = 0; seed < 200; seed++) {
            wild(seed);
        }
        Check.finish("HistoryTest");
    }

    private void go() {
        for (int n = 0; n < 60; n++) {
            change();
            if (random.nextBoolean()) {
                Answers.ask(x, random.nextInt(8));
            }
            if (n % 4 == 0) {
                compare(n);
            }
        }
    }

    private void change() {
        int r = random.nextInt(random.nextBoolean() ? 4 : 8);
        switch (random.nextInt(4)) {
            case 0: {
                int k = random.nextInt(6);
                int of = random.nextInt(7) - 1;
                if (x.under(k, of)) {
                    parent[k] = of;
                }
                break;
            }
            case 1: {
                int kinds = random.nextInt(70) - 3;
                if (x.promise(r, kinds)) {
                    promised[r] = kinds;
                }
                break;
            }
            default: {
                String text = TEXTS[random.nextInt(TEXTS.length)];
                if (Check.tell(x, r, text) == 0) {
                    texts[r] = text;
                }
            }
        }
    }

    private void compare(int n) {
        WaysOut y = new WaysOut();
        for (int r = 7; r >= 0; r--) {
            Check.due("text " + texts[r], Check.tell(y, r, texts[r]), 0);
            y.promise(r, promised[r]);
        }
        for (int k = 0; k < 6; k++) {
            Check.due("under", y.under(k, parent[k]), true);
        }
        for (int r = 0; r < 8; r++) {
            int[] got = Answers.ask(x, r);
            int[] want = Answers.ask(y, r);
            Check.due("after " + n + " changes, " + r + " of " + Arrays.toString(texts), Arrays.equals(got, want), true);
        }
    }

    private static void wild(int seed) {
        Random random = new Random(seed);
        WaysOut x = new WaysOut();
        WaysOut same = new WaysOut();
        for (int n = 0; n < 512; n++) {
            int promise = 2 + random.nextInt(19);
            int[] a = new int[5];
            for (int i = 0; i < a.length; i++) {
                a[i] = random.nextInt(12) == 0 ? ODD[random.nextInt(ODD.length)] : random.nextInt(random.nextInt(6) + 1);
            }
            if (promise > 17) {
                String text = TEXTS[random.nextInt(TEXTS.length)];
                Check.due("the same text", Check.tell(x, a[0], text), Check.tell(same, a[0], text));
                continue;
            }
            int[] before = seed < 20 ? Answers.askAll(x) : null;
            long got = Answers.call(x, promise, a);
            long gotThere = Answers.call(same, promise, a);
            Check.due("the same call of promise " + promise + ", " + Arrays.toString(a), got, gotThere);
            if (before != null && (promise > 5 || Answers.isRefusal(promise, got))) {
                Check.due("the call of promise " + promise + ", " + Arrays.toString(a) + ", changes nothing",
                        Arrays.equals(before, Answers.askAll(x)), true);
            }
        }
    }
}

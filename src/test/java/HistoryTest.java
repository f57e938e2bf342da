import java.util.Arrays;
import java.util.Random;

/**
 * Long runs of random calls: an object answers as a new one would that was only told what stands at last,
 * calls that are refused change nothing, and no argument makes a call throw.
 */
public final class HistoryTest {
    private static final String[] TEXTS = {"", "!A", "!B", "!F", "@a", "@b", "@c@d", "T{@b}A{}", "T{@c}A{^}B{+0}Z{-0}",
        "?{!A}{@a}", "?{!C}{+0@d}", "T{@a}Z{@b}", "T{@d}Z{.}", "*{@a}+1", "*{?{+0}{@c}}", "T{@a}A{T{^}B{}Z{@c}}C{!D}",
        "T{@b@c}F{.}E{@d}Z{?{}{!E}}", "{", "T{}", "^", "!A!", "*{*{*{*{*{*{*{*{*{}", "T{!A}A{}A{}A{}A{}A{}A{}A{}"};
    private static final int[] ODD = {Integer.MIN_VALUE, -100, -2, -1, 6, 7, 8, 60, 61, 64, 99, 160, Integer.MAX_VALUE};

    private final Random random;
    private final WaysOut x = new WaysOut();
    private final String[] texts = new String[8];
    private final int[] parent = {-1, -1, -1, -1, -1, -1};
    private final int[] promised = new int[8];

    private HistoryTest(int seed) {
        random = new Random(seed);
        Arrays.fill(texts, "");
    }

    public static void main(String[] args) {
        for (int seed = 0; seed < 60; seed++) {
            new HistoryTest(seed).go();
        }
        for (int seed = 0; seed < 200; seed++) {
            wild(seed);
        }
        Check.finish("HistoryTest");
    }

    private void go() {
        for (int n = 0; n < 60; n++) {
            change();
            if (random.nextBoolean()) {
                ask(x, random.nextInt(8));
            }
            if (n % 4 == 0) {
                compare(n);
            }
        }
    }

    private void change() {
        int r = random.nextInt(random.nextBoolean() ? 4 : 8);
        switch (random.nextInt(4)) {
            case 0: {
                int k = random.nextInt(6);
                int of = random.nextInt(7) - 1;
                if (x.under(k, of)) {
                    parent[k] = of;
                }
                break;
            }
            case 1: {
                int kinds = random.nextInt(70) - 3;
                if (x.promise(r, kinds)) {
                    promised[r] = kinds;
                }
                break;
            }
            default: {
                String text = TEXTS[random.nextInt(TEXTS.length)];
                if (Check.tell(x, r, text) == 0) {
                    texts[r] = text;
                }
            }
        }
    }

    private void compare(int n) {
        WaysOut y = new WaysOut();
        for (int r = 7; r >= 0; r--) {
            Check.due("text " + texts[r], Check.tell(y, r, texts[r]), 0);
            y.promise(r, promised[r]);
        }
        for (int k = 0; k < 6; k++) {
            Check.due("under", y.under(k, parent[k]), true);
        }
        for (int r = 0; r < 8; r++) {
            int[] got = ask(x, r);
            int[] want = ask(y, r);
            Check.due("after " + n + " changes, " + r + " of " + Arrays.toString(texts), Arrays.equals(got, want), true);
        }
    }

    /** All that can be asked of a ROUTINE. */
    private static int[] ask(WaysOut x, int r) {
        int[] out = new int[400];
        int n = 0;
        for (int s = 0; s < 4; s++) {
            out[n++] = x.leaves(r, s);
            out[n++] = x.ends(r, s);
            for (int exit = 0; exit < 7; exit++) {
                for (int t = 0; t < 4; t++) {
                    out[n++] = x.steps(r, s, exit, t);
                }
            }
        }
        for (int i = 0; i < 22; i++) {
            out[n++] = x.due(r, i);
        }
        out[n++] = x.takers(r);
        for (int h = 0; h <= x.takers(r); h++) {
            for (int what = 0; what < 6; what++) {
                out[n++] = x.taker(r, h, what);
            }
        }
        out[n++] = x.lost(r);
        out[n++] = x.broken(r);
        out[n++] = x.idle(r);
        for (int what = 0; what < 5; what++) {
            out[n++] = x.look(r, what);
        }
        for (int i = 0; i <= x.look(r, 0); i++) {
            out[n++] = x.look(r, 100 + i);
        }
        return out;
    }

    private static int[] askAll(WaysOut x) {
        int[] out = new int[8 * 400 + 40];
        for (int r = 0; r < 8; r++) {
            System.arraycopy(ask(x, r), 0, out, 400 * r, 400);
        }
        for (int i = 0; i < 36; i++) {
            out[3200 + i] = x.is(i / 6, i % 6);
        }
        for (int what = 0; what < 4; what++) {
            out[3236 + what] = x.fault(what);
        }
        return out;
    }

    private static void wild(int seed) {
        Random random = new Random(seed);
        WaysOut x = new WaysOut();
        WaysOut same = new WaysOut();
        for (int n = 0; n < 512; n++) {
            int what = random.nextInt(19);
            int[] a = new int[5];
            for (int i = 0; i < a.length; i++) {
                a[i] = random.nextInt(12) == 0 ? ODD[random.nextInt(ODD.length)] : random.nextInt(random.nextInt(6) + 1);
            }
            if (what >= 16) {
                String text = TEXTS[random.nextInt(TEXTS.length)];
                Check.due("the same text", Check.tell(x, a[0], text), Check.tell(same, a[0], text));
                continue;
            }
            int[] before = seed < 20 ? askAll(x) : null;
            long got = call(x, what, a);
            Check.due("the same call " + what + " of " + Arrays.toString(a), got, call(same, what, a));
            boolean refused = got == (what == 2 || what == 3 ? 0 : WaysOut.NONE);
            if (before != null && (refused || what > 3)) {
                Check.due("call " + what + " of " + Arrays.toString(a) + " changes nothing",
                        Arrays.equals(before, askAll(x)), true);
            }
        }
    }

    private static long call(WaysOut x, int what, int[] a) {
        switch (what) {
            case 0:
                return x.feed(a[0], a[1], a[2], a[3], a[4]);
            case 1:
                return x.text(a[0], a[1]);
            case 2:
                return x.under(a[0], a[1]) ? 1 : 0;
            case 3:
                return x.promise(a[0], a[1]) ? 1 : 0;
            case 4:
                return x.steps(a[0], a[1], a[2], a[3]);
            case 5:
                return x.leaves(a[0], a[1]);
            case 6:
                return x.ends(a[0], a[1]);
            case 7:
                return x.due(a[0], a[1]);
            case 8:
                return x.takers(a[0]);
            case 9:
                return x.taker(a[0], a[1], a[2]);
            case 10:
                return x.lost(a[0]);
            case 11:
                return x.broken(a[0]);
            case 12:
                return x.idle(a[0]);
            case 13:
                return x.look(a[0], a[1]);
            case 14:
                return x.is(a[0], a[1]);
            default:
                return x.fault(a[0]);
        }
    }
}

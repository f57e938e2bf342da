import java.util.Random;

/** Promises 4 and 16: KINDS that lie UNDER others. */
public final class KindsTest {
    public static void main(String[] args) {
        chain();
        moved();
        wrong();
        random();
        changesWhatIsTaken();
        Check.finish("KindsTest");
    }

    private static void chain() {
        WaysOut x = new WaysOut();
        for (int k = 1; k < 6; k++) {
            Check.due("under(" + k + ", " + (k - 1) + ")", x.under(k, k - 1), true);
        }
        for (int k = 0; k < 6; k++) {
            for (int of = 0; of < 6; of++) {
                Check.due("is(" + k + ", " + of + ")", x.is(k, of), k >= of ? 1 : 0);
                Check.due("is again", x.is(k, of), k >= of ? 1 : 0);
            }
        }
        Check.due("under(0, 5)", x.under(0, 5), false);
        Check.due("under(0, 1)", x.under(0, 1), false);
        Check.due("under(3, 3)", x.under(3, 3), false);
        Check.due("under(3, 5)", x.under(3, 5), false);
        Check.due("is(3, 2)", x.is(3, 2), 1);
    }

    private static void moved() {
        WaysOut x = new WaysOut();
        Check.due("under(2, 1)", x.under(2, 1), true);
        Check.due("under(3, 2)", x.under(3, 2), true);
        Check.due("under(2, 0)", x.under(2, 0), true);
        Check.due("is(2, 1)", x.is(2, 1), 0);
        Check.due("is(3, 1)", x.is(3, 1), 0);
        Check.due("is(3, 0)", x.is(3, 0), 1);
        Check.due("under(1, 3)", x.under(1, 3), true);
        Check.due("is(1, 0)", x.is(1, 0), 1);
        Check.due("under(2, -1)", x.under(2, WaysOut.NONE), true);
        Check.due("is(1, 0)", x.is(1, 0), 0);
        Check.due("is(1, 2)", x.is(1, 2), 1);
        Check.due("under(0, 1)", x.under(0, 1), true);
        Check.due("is(0, 2)", x.is(0, 2), 1);
        Check.due("under none once more", x.under(2, WaysOut.NONE), true);
    }

    private static void wrong() {
        WaysOut x = new WaysOut();
        int[] no = {-1, 6, -2, 64, Integer.MIN_VALUE, Integer.MAX_VALUE};
        for (int k : no) {
            Check.due("under(" + k + ", 0)", x.under(k, 0), false);
            Check.due("under(" + k + ", -1)", x.under(k, -1), false);
            Check.due("under(0, " + k + ")", x.under(0, k), k == -1);
            Check.due("is(" + k + ", 0)", x.is(k, 0), WaysOut.NONE);
            Check.due("is(0, " + k + ")", x.is(0, k), WaysOut.NONE);
            Check.due("is(" + k + ", " + k + ")", x.is(k, k), WaysOut.NONE);
        }
    }

    private static void random() {
        Random random = new Random(4);
        for (int n = 0; n < 200; n++) {
            WaysOut x = new WaysOut();
            int[] parent = {-1, -1, -1, -1, -1, -1};
            for (int i = 0; i < 40; i++) {
                int k = random.nextInt(6);
                int of = random.nextInt(7) - 1;
                boolean fits = true;
                for (int up = of; up >= 0; up = parent[up]) {
                    fits &= up != k;
                }
                Check.due("under(" + k + ", " + of + ")", x.under(k, of), fits);
                parent[k] = fits ? of : parent[k];
                int a = random.nextInt(6);
                int b = random.nextInt(6);
                boolean is = false;
                for (int up = a; up >= 0; up = parent[up]) {
                    is |= up == b;
                }
                Check.due("is(" + a + ", " + b + ")", x.is(a, b), is ? 1 : 0);
            }
        }
    }

    private static void changesWhatIsTaken() {
        WaysOut x = Check.told("T{!C}A{+0}B{+1}");
        Check.due("leaves", x.leaves(0, 0), 4);
        Check.due("taken", x.taker(0, 0, 2), 0);
        x.under(2, 1);
        Check.due("leaves", x.leaves(0, 0), 0);
        Check.due("steps", x.steps(0, 0, 0, 2), 2);
        Check.due("taken", x.taker(0, 1, 2), 4);
        x.under(1, 0);
        Check.due("the first of whose KIND it IS", x.steps(0, 0, 0, 1), 2);
        Check.due("taken", x.taker(0, 0, 2), 4);
        Check.due("taken", x.taker(0, 1, 2), 0);
        Check.due("a refused one", x.under(0, 2), false);
        Check.due("changes nothing", x.taker(0, 0, 2), 4);
        x.under(2, -1);
        Check.due("leaves", x.leaves(0, 0), 4);
    }
}

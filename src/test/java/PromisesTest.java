/** Promises 5, 13 and 14: PROMISES, BROKEN and IDLE. */
public final class PromisesTest {
    public static void main(String[] args) {
        kept();
        under();
        wrong();
        onlyWhatLeaves();
        Check.finish("PromisesTest");
    }

    private static void kept() {
        WaysOut x = Check.told("?{!A}{?{!B}{!F}}");
        Check.due("broken without a PROMISE", x.broken(0), 35);
        Check.due("idle without a PROMISE", x.idle(0), 0);
        Check.due("promise(0, 63)", x.promise(0, 63), true);
        Check.due("broken", x.broken(0), 0);
        Check.due("idle", x.idle(0), 63 - 35);
        Check.due("look(0, 3)", x.look(0, 3), 63);
        Check.due("promise(0, 33)", x.promise(0, 33), true);
        Check.due("broken", x.broken(0), 2);
        Check.due("idle", x.idle(0), 0);
        Check.due("promise(0, 0)", x.promise(0, 0), true);
        Check.due("broken", x.broken(0), 35);
        Check.due("another one's broken", x.broken(1), 0);
        Check.due("promise(7, 5)", x.promise(7, 5), true);
        Check.due("idle(7)", x.idle(7), 5);
        Check.due("the PROMISE outlives the TEXT", Check.tell(x, 7, "!C"), 0);
        Check.due("look(7, 3)", x.look(7, 3), 5);
        Check.due("idle(7)", x.idle(7), 1);
        Check.due("broken(7)", x.broken(7), 0);
    }

    private static void under() {
        WaysOut x = Check.told("!C");
        x.under(2, 1);
        x.under(1, 0);
        x.promise(0, 1);
        Check.due("two above", x.broken(0), 0);
        Check.due("two above", x.idle(0), 0);
        x.promise(0, 7);
        Check.due("all above", x.idle(0), 0);
        x.promise(0, 8);
        Check.due("none above", x.broken(0), 4);
        Check.due("none above", x.idle(0), 8);
        WaysOut y = Check.told("!A");
        y.under(1, 0);
        y.promise(0, 2);
        Check.due("one below is no PROMISE", y.broken(0), 1);
        Check.due("one below is idle", y.idle(0), 2);
    }

    private static void wrong() {
        WaysOut x = Check.told("!A");
        x.promise(0, 3);
        int[] no = {-1, 8, Integer.MIN_VALUE, Integer.MAX_VALUE};
        for (int r : no) {
            Check.due("promise(" + r + ", 1)", x.promise(r, 1), false);
            Check.due("broken(" + r + ")", x.broken(r), WaysOut.NONE);
            Check.due("idle(" + r + ")", x.idle(r), WaysOut.NONE);
        }
        for (int kinds : new int[] {-1, 64, 65, Integer.MIN_VALUE, Integer.MAX_VALUE}) {
            Check.due("promise(0, " + kinds + ")", x.promise(0, kinds), false);
            Check.due("look(0, 3)", x.look(0, 3), 3);
        }
    }

    private static void onlyWhatLeaves() {
        WaysOut x = Check.told("T{!A}A{!B}", "@a.!C", "@c!D");
        x.promise(0, 1);
        Check.due("what is taken doesn't leave", x.broken(0), 2);
        Check.due("what is taken doesn't leave", x.idle(0), 1);
        Check.due("what is called leaves, too", x.broken(1), 2);
        Check.due("what never ends is not left", x.broken(2), 0);
    }
}

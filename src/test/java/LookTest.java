/** Promise 15: what stands in a ROUTINE, and what it comes to by calling. */
public final class LookTest {
    public static void main(String[] args) {
        bytes();
        calls();
        wrong();
        Check.finish("LookTest");
    }

    private static void bytes() {
        WaysOut x = Check.told("", "*{+0}");
        Check.due("look(0, 0)", x.look(0, 0), 0);
        Check.due("look(0, 100)", x.look(0, 100), WaysOut.NONE);
        Check.due("look(1, 0)", x.look(1, 0), 5);
        String text = "*{+0}";
        for (int i = 0; i < 5; i++) {
            Check.due("look(1, 100 + " + i + ")", x.look(1, 100 + i), text.charAt(i));
        }
        Check.due("look(1, 105)", x.look(1, 105), WaysOut.NONE);
        Check.tell(x, 1, ".");
        Check.due("look(1, 0)", x.look(1, 0), 1);
        Check.due("look(1, 101)", x.look(1, 101), WaysOut.NONE);
        x.promise(1, 42);
        Check.due("look(1, 3)", x.look(1, 3), 42);
    }

    private static void calls() {
        WaysOut x = Check.told("@b", "T{@c}A{@d}Z{.@e}", "?{}{*{@c}}", "", "@f@g", "", "@h", "@e@a@a");
        int[] calls = {2, 28, 4, 0, 96, 0, 128, 17};
        int[] comes = {255, 255, 4, 0, 255, 0, 255, 255};
        for (int r = 0; r < 8; r++) {
            Check.due("look(" + r + ", 1)", x.look(r, 1), calls[r]);
            Check.due("look(" + r + ", 2)", x.look(r, 2), comes[r]);
        }
        Check.tell(x, 7, "");
        int[] then = {254, 252, 4, 0, 224, 0, 128, 0};
        for (int r = 0; r < 8; r++) {
            Check.due("look(" + r + ", 2)", x.look(r, 2), then[r]);
        }
        WaysOut y = Check.told("@b", "@c", "@d", "@e", "@f", "@g", "@h", "");
        Check.due("a long way", y.look(0, 2), 254);
        WaysOut z = Check.told("", "@a", "@b", "@c", "@d", "@e", "@f", "@g");
        Check.due("a long way down", z.look(7, 2), 127);
    }

    private static void wrong() {
        WaysOut x = Check.told("!A");
        for (int what : new int[] {-1, 4, 99, 102, 160, -100, Integer.MIN_VALUE, Integer.MAX_VALUE}) {
            Check.due("look(0, " + what + ")", x.look(0, what), WaysOut.NONE);
        }
        for (int r : new int[] {-1, 8, Integer.MIN_VALUE, Integer.MAX_VALUE}) {
            for (int what : new int[] {0, 1, 2, 3, 100}) {
                Check.due("look(" + r + ", " + what + ")", x.look(r, what), WaysOut.NONE);
            }
        }
    }
}

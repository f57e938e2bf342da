/** Promise 15: a test for each sentence on what look() tells of a ROUTINE. */
public final class EdgesLookTest {
    private static final int NONE = WaysOut.NONE;

    public static void main(String[] args) {
        eightRoutines();
        emptyAtFirst();
        howManyBytes();
        calls();
        comesTo();
        notToItself();
        promise();
        bytes();
        others();
        Check.finish("EdgesLookTest");
    }

    private static void eightRoutines() {
        Check.sentence(15, "ROUTINES 0 to 7, written a to h");
        for (int r = 0; r < 8; r++) {
            WaysOut x = new WaysOut();
            Check.due("text", Check.tell(x, r, "@" + (char) ('a' + r)), 0);
            for (int q = 0; q < 8; q++) {
                Check.due("look(" + q + ", 0)", x.look(q, 0), q == r ? 2 : 0);
                Check.due("look(" + q + ", 1)", x.look(q, 1), q == r ? 1 << r : 0);
            }
        }
    }

    private static void emptyAtFirst() {
        Check.sentence(15, "(an empty one at first)");
        WaysOut x = new WaysOut();
        for (int r = 0; r < 8; r++) {
            for (int what = 0; what < 3; what++) {
                Check.due("look(" + r + ", " + what + ")", x.look(r, what), 0);
            }
            Check.due("look(" + r + ", 100)", x.look(r, 100), NONE);
        }
    }

    private static void howManyBytes() {
        Check.sentence(15, "what 0 how many bytes");
        for (int n : new int[] {0, 1, 59, 60}) {
            WaysOut x = Check.told(".".repeat(n));
            Check.due("look(0, 0)", x.look(0, 0), n);
        }
        WaysOut x = Check.told(".".repeat(60));
        Check.tell(x, 0, ".");
        Check.due("look(0, 0) of a shorter one", x.look(0, 0), 1);
    }

    private static void calls() {
        Check.sentence(15, "1 ROUTINES that its TEXT calls (bits)");
        WaysOut x = Check.told("@a@b@c@d@e@f@g@h", "@h@h", "?{@a}{@b}*{@c}T{@d}A{@e}Z{@f}", ".@g", "", "!A");
        int[] want = {255, 128, 63, 64, 0, 0};
        for (int r = 0; r < want.length; r++) {
            Check.due("look(" + r + ", 1)", x.look(r, 1), want[r]);
        }
        Check.tell(x, 0, ".");
        Check.due("look(0, 1) of another TEXT", x.look(0, 1), 0);
    }

    private static void comesTo() {
        Check.sentence(15, "2 those that it comes to by calling, one or several times over (bits)");
        WaysOut up = Check.told("@b", "@c", "@d", "@e", "@f", "@g", "@h", "");
        WaysOut down = Check.told("", "@a", "@b", "@c", "@d", "@e", "@f", "@g");
        for (int r = 0; r < 8; r++) {
            Check.due("look(" + r + ", 2) upwards", up.look(r, 2), 255 & -2 << r);
            Check.due("look(" + r + ", 2) downwards", down.look(r, 2), (1 << r) - 1);
        }
        Check.tell(up, 7, "@a");
        for (int r = 0; r < 8; r++) {
            Check.due("look(" + r + ", 2) in a ring", up.look(r, 2), 255);
        }
        Check.tell(up, 3, "");
        Check.due("look(0, 2) in a ring that is cut", up.look(0, 2), 14);
        Check.due("look(4, 2) in a ring that is cut", up.look(4, 2), 255 - 16);
    }

    private static void notToItself() {
        Check.sentence(15, "one or several times over");
        WaysOut x = Check.told("@b", "", "@c", "@e", "@d");
        int[] want = {2, 0, 4, 24, 24, 0};
        for (int r = 0; r < want.length; r++) {
            Check.due("look(" + r + ", 2)", x.look(r, 2), want[r]);
        }
    }

    private static void promise() {
        Check.sentence(15, "3 PROMISE");
        WaysOut x = new WaysOut();
        for (int r = 0; r < 8; r++) {
            Check.due("look(" + r + ", 3) at first", x.look(r, 3), 0);
        }
        x.promise(0, 63);
        Check.tell(x, 0, "!A");
        Check.due("look(0, 3) of the full set", x.look(0, 3), 63);
        Check.due("look(1, 3)", x.look(1, 3), 0);
    }

    private static void bytes() {
        Check.sentence(15, "100 + i byte i");
        String sixty = "!A!B!C!D!E!F@a@b@c@d@e@f@g@h+0+1-0-1.?{}{}*{}T{}A{^}B{}Z{}!F";
        WaysOut x = Check.told(sixty);
        Check.due("length", sixty.length(), 60);
        for (int i = 0; i < 60; i++) {
            Check.due("look(0, " + (100 + i) + ")", x.look(0, 100 + i), sixty.charAt(i));
        }
        Check.due("look(0, 160)", x.look(0, 160), NONE);
        Check.tell(x, 0, "..");
        Check.due("look(0, 101)", x.look(0, 101), '.');
        Check.due("look(0, 102): what stood there before is gone", x.look(0, 102), NONE);
    }

    private static void others() {
        Check.sentence(15, "NONE for others");
        WaysOut x = Check.told("!A", "", "", "", "", "", "", ".");
        for (int what : new int[] {-1, 4, 99, 102, 159, 160, -100, Integer.MIN_VALUE, Integer.MAX_VALUE}) {
            Check.due("look(0, " + what + ")", x.look(0, what), NONE);
        }
        for (int r : Check.noneOf(7)) {
            for (int what : new int[] {0, 1, 2, 3, 100}) {
                Check.due("look(" + r + ", " + what + ")", x.look(r, what), NONE);
            }
        }
        Check.due("look(7, 100)", x.look(7, 100), '.');
    }
}

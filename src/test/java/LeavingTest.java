/** Promises 6 to 9: how a ROUTINE is left, in how few STEPS, and with what open. */
public final class LeavingTest {
    public static void main(String[] args) {
        statements();
        blocks();
        takersAndEndings();
        raisedAgain();
        calls();
        most();
        dues();
        wrong();
        Check.finish("LeavingTest");
    }

    private static void statements() {
        Ways.due("", 2, "0:2=0");
        Ways.due("!A", 0, "1:0=1");
        Ways.due("!F", 3, "6:3=1");
        Ways.due(".", 1, "0:1=1");
        Ways.due(".!A", 1, "0:1=1");
        Ways.due("!B!A", 1, "2:1=1");
        Ways.due("+0", 0, "0:1=1");
        Ways.due("+1", 0, "0:2=1");
        Ways.due("+0+0", 1, "0:1=2");
        Ways.due("-0", 3, "0:2=1");
        Ways.due("-1", 3, "0:1=1");
        Ways.due("-1-1", 1, "0:1=2");
        Ways.due("+0-1!C", 2, "3:1=3");
    }

    private static void blocks() {
        Ways.due("?{!A}{}", 0, "0:0=0 1:0=1");
        Ways.due("?{+0.}{+1+1}!D", 0, "0:1=2 4:2=3");
        Ways.due("?{?{!A}{!B}}{?{!C}{!D}}", 1, "1:1=1 2:1=1 3:1=1 4:1=1");
        Ways.due("*{}", 2, "0:2=0");
        Ways.due("*{+0}", 0, "0:0=0 0:1=1");
        Ways.due("*{?{+0}{+1}}", 0, "0:0=0 0:1=1 0:2=1 0:3=2");
        Ways.due("*{?{+0-1}{?{+1}{-0}}}", 0, "0:0=0 0:1=2 0:2=1 0:3=3");
        Ways.due("*{?{-0}{?{-1}{!A}}}", 3, "0:0=2 0:1=1 0:2=1 0:3=0 1:0=3 1:1=2 1:2=2 1:3=1");
        Ways.due("*{+0?{.}{!A}}", 0, "0:0=0 0:1=2 1:1=2");
        Ways.due("*{+0?{}{?{.}{-0+1}}}-0", 0, "0:0=1 0:1=2 0:2=4 0:3=5");
        Ways.due("*{*{*{+0+1}-0}!A}", 0, "0:0=0 1:0=1 1:2=4");
    }

    private static void takersAndEndings() {
        Ways.due("T{!A}A{}", 0, "0:0=1");
        Ways.due("T{!A}B{}", 0, "1:0=1");
        Ways.due("T{+0!A}B{+1}A{+1}A{}", 0, "0:3=3");
        Ways.due("T{!A}A{!B}B{}", 0, "2:0=2");
        Ways.due("T{!A}A{.}!C", 0, "0:0=2");
        Ways.due("T{}A{}!C", 0, "3:0=1");
        Ways.due("T{.}A{!B}!C", 0, "0:0=1");
        Ways.due("T{+0}Z{+1}!C", 0, "3:3=3");
        Ways.due("T{.}Z{+1}!C", 0, "0:2=2");
        Ways.due("T{!A}Z{+1}!C", 0, "1:2=2");
        Ways.due("T{!A}A{!B}Z{+1}", 0, "2:2=3");
        Ways.due("T{!A}A{.}Z{+1}!C", 0, "0:2=3");
        Ways.due("T{!A}A{}Z{+1}!C", 0, "3:2=3");
        Ways.due("T{!A}Z{.}!C", 0, "0:0=2");
        Ways.due("T{.}Z{!A}!C", 0, "1:0=2");
        Ways.due("T{}Z{!A}!C", 0, "1:0=1");
        Ways.due("T{!B}B{}Z{!B}", 0, "2:0=2");
        Ways.due("T{!A}Z{?{!B}{+0}}", 0, "1:1=2 2:0=2");
        Ways.due("T{!A}Z{T{!B}Z{.}}", 0, "0:0=3");
        Ways.due("T{T{!A}Z{!B}}B{+0}", 0, "0:1=3");
        Ways.due("T{!A}Z{T{!B}B{}}", 0, "1:0=2");
        Ways.due("T{?{!A}{?{.}{}}}Z{+0}+1", 0, "0:1=2 0:3=2 1:1=2");
    }

    private static void raisedAgain() {
        Ways.due("T{!A}A{^}", 0, "1:0=2");
        Ways.due("T{!A}A{+0^+1}Z{-0}", 0, "1:0=4");
        Ways.due("T{!A}A{T{^}A{+1}}", 0, "0:2=3");
        Ways.due("T{!A}A{T{!B}B{^}}", 0, "2:0=3");
        Ways.due("T{!A}A{T{!B}B{}^}", 0, "1:0=3");
        Ways.due("T{!A}A{T{}Z{^}}", 0, "1:0=2");
        Ways.due("T{!A}A{T{!B}Z{^}}", 0, "1:0=3");
        Ways.due("T{!B}B{T{!C}Z{^}}", 0, "2:0=3");
        Ways.due("T{!B}B{?{*{^}}{T{^}Z{}}}", 0, "0:0=1 2:0=2");
        Ways.due("T{T{!C}C{T{!E}E{^}}}C{!A}E{+0^}", 0, "5:1=5");
        Ways.due("T{!A}A{*{+0?{^}{}}}", 0, "0:0=1 0:1=2 1:1=3");
        WaysOut x = Check.told("?{!A}{?{!B}{!C}}", "T{@a}A{T{^}B{+0}C{+1}}");
        x.under(1, 0);
        x.under(2, 0);
        Ways.due(x, 1, 0, "0:1=4 0:2=4 1:0=3");
        x.under(2, 1);
        Ways.due(x, 1, 0, "0:1=4 1:0=3");
        WaysOut y = Check.told("?{!A}{?{!B}{!C}}", "T{@a}A{T{@a}A{^}^}");
        y.under(1, 0);
        y.under(2, 1);
        Ways.due(y, 1, 0, "1:0=5 2:0=5 3:0=5");
    }

    private static void calls() {
        WaysOut x = Check.told("+0@b-0", "?{.}{!C}", "@c", "?{}{@d+1}", "?{+0}{@d@f}", "@e!A", "@h.", "T{@g}Z{@g}");
        Ways.due(x, 0, 0, "0:0=4 3:1=3");
        Ways.due(x, 1, 3, "0:3=1 3:3=1");
        Ways.due(x, 2, 0, "");
        Ways.due(x, 3, 0, "0:0=0 0:2=2");
        Ways.due(x, 4, 0, "0:1=1 1:1=5 1:3=7");
        Ways.due(x, 5, 0, "1:1=3 1:3=8");
        Ways.due(x, 6, 0, "");
        Check.tell(x, 7, "?{@g}{!B}");
        Ways.due(x, 6, 1, "2:1=2");
        Ways.due(x, 7, 1, "2:1=1");
        Check.tell(x, 1, "@b");
        Ways.due(x, 0, 0, "");
        WaysOut y = Check.told("?{!A}{T{@a}A{+0}}");
        Ways.due(y, 0, 0, "0:1=3 1:0=1");
    }

    private static void most() {
        String ten = "@a@a@a@a@a@a@a@a@a@a";
        WaysOut x = Check.told("+0+0+0+0+0+0+0+0+0+0", ten, ten.replace('a', 'b'), "@c@c@c@c", "?{@d}{+1}");
        Ways.due(x, 0, 0, "0:1=10");
        Ways.due(x, 1, 0, "0:1=110");
        Ways.due(x, 2, 0, "0:1=999");
        Ways.due(x, 3, 0, "0:1=999");
        Ways.due(x, 4, 0, "0:1=999 0:2=1");
        Check.tell(x, 5, "@b@b@b@b@b@b@b@b" + "@a@a@a@a@a@a@a@a@a" + "+0+0+0+0+0+0+0+0+0+0+0");
        Ways.due(x, 5, 0, "0:1=998");
        Check.tell(x, 5, "@b@b@b@b@b@b@b@b@b");
        Ways.due(x, 5, 0, "0:1=999");
        Check.tell(x, 5, "@b@b@b@b@b@b@b@b@b!A");
        Ways.due(x, 5, 0, "1:1=999");
        Check.tell(x, 6, "*{@f}T{@f}A{.}");
        Ways.due(x, 6, 0, "0:1=999 1:1=999");
    }

    private static void dues() {
        WaysOut x = Check.told("?{+0?{}{!F}}{+1?{!B}{?{.}{+0!B}}}", "+0!A", "-0", "T{+0!A}Z{-0}");
        int[] want = {1, 2, 10, 11, 25};
        for (int i = 0; i < want.length; i++) {
            Check.due("due(0, " + i + ")", x.due(0, i), want[i]);
        }
        Check.due("due(0, 5)", x.due(0, 5), WaysOut.NONE);
        Check.due("due(0, -1)", x.due(0, -1), WaysOut.NONE);
        Check.due("due(0, most)", x.due(0, Integer.MAX_VALUE), WaysOut.NONE);
        Check.due("due(1, 0)", x.due(1, 0), 5);
        Check.due("due(1, 1)", x.due(1, 1), WaysOut.NONE);
        Check.due("due(2, 0)", x.due(2, 0), WaysOut.NONE);
        Check.due("due(3, 0)", x.due(3, 0), WaysOut.NONE);
        Check.tell(x, 4, "?{!A}{?{!B}{?{!C}{?{!D}{?{!E}{!F}}}}}");
        Check.tell(x, 5, "*{?{+0}{+1}}?{}{@e}");
        int i = 0;
        for (int exit = 0; exit < 7; exit++) {
            for (int t = 1; t < 4; t++) {
                Check.due("due(5, " + i + ")", x.due(5, i), 4 * exit + t);
                i++;
            }
        }
        Check.due("due(5, 21)", x.due(5, 21), WaysOut.NONE);
    }

    private static void wrong() {
        WaysOut x = Check.told("!A");
        for (int r : new int[] {-1, 8, Integer.MIN_VALUE, Integer.MAX_VALUE}) {
            Check.due("steps(" + r + ", 0, 0, 0)", x.steps(r, 0, 0, 0), WaysOut.NONE);
            Check.due("leaves(" + r + ", 0)", x.leaves(r, 0), WaysOut.NONE);
            Check.due("ends(" + r + ", 0)", x.ends(r, 0), WaysOut.NONE);
            Check.due("due(" + r + ", 0)", x.due(r, 0), WaysOut.NONE);
        }
        for (int s : new int[] {-1, 4, Integer.MIN_VALUE, Integer.MAX_VALUE}) {
            Check.due("steps(0, " + s + ", 1, 0)", x.steps(0, s, 1, 0), WaysOut.NONE);
            Check.due("steps(0, 0, 1, " + s + ")", x.steps(0, 0, 1, s), WaysOut.NONE);
            Check.due("leaves(0, " + s + ")", x.leaves(0, s), WaysOut.NONE);
            Check.due("ends(0, " + s + ")", x.ends(0, s), WaysOut.NONE);
        }
        for (int exit : new int[] {-1, 7, Integer.MIN_VALUE, Integer.MAX_VALUE}) {
            Check.due("steps(0, 0, " + exit + ", 0)", x.steps(0, 0, exit, 0), WaysOut.NONE);
        }
    }
}

/** Promises 10, 11 and 12: TAKERS, what they take, and what ENDINGS lose. */
public final class TakersTest {
    public static void main(String[] args) {
        numbers();
        taken();
        neverBehindWhatDoesNotEnd();
        reachedInside();
        swallows();
        ofItselfAlone();
        lost();
        lostBehindWhatDoesNotEnd();
        wrong();
        Check.finish("TakersTest");
    }

    private static void taker(WaysOut x, int r, int h, int... want) {
        for (int what = 0; what < want.length; what++) {
            Check.due("taker(" + r + ", " + h + ", " + what + ")", x.taker(r, h, what), want[what]);
        }
    }

    private static void lost(String text, int want) {
        Check.due("lost by " + text, Check.told(text).lost(0), want);
    }

    private static void numbers() {
        WaysOut x = Check.told("T{T{!A}B{}}C{T{}D{}E{}}F{}T{}A{}", "", "T{}Z{}", "T{}A{}A{}A{}A{}A{}A{}");
        Check.due("takers(0)", x.takers(0), 6);
        String kinds = "BCDEFA";
        int[] places = {7, 11, 16, 19, 23, 29};
        for (int h = 0; h < 6; h++) {
            taker(x, 0, h, kinds.charAt(h) - 'A', places[h]);
        }
        Check.due("takers(1)", x.takers(1), 0);
        Check.due("takers(2)", x.takers(2), 0);
        Check.due("takers(3)", x.takers(3), 6);
        taker(x, 3, 5, 0, 18, 0, 0, 1);
        Check.due("taker(3, 6, 0)", x.taker(3, 6, 0), WaysOut.NONE);
        String seventeen = "T{}A{}B{}C{}D{}E{}F{}".repeat(2) + "T{}A{}B{}C{}D{}E{}";
        Check.due("sixty bytes of TAKERS", Check.tell(x, 4, seventeen), 0);
        Check.due("takers(4)", x.takers(4), 17);
        taker(x, 4, 16, 4, 57, 0, 0, 1);
    }

    private static void taken() {
        WaysOut x = Check.told("?{!A}{?{!B}{?{!C}{!D}}}", "T{@a}B{}A{.}D{!A}", "T{@a}A{+0}A{}Z{}");
        taker(x, 1, 0, 1, 5, 2, 1, 0);
        taker(x, 1, 1, 0, 8, 1, 0, 0);
        taker(x, 1, 2, 3, 12, 8, 0, 0);
        taker(x, 2, 0, 0, 5, 1, 0, 0);
        taker(x, 2, 1, 0, 10, 0, 0, 1);
        x.under(2, 1);
        x.under(3, 0);
        taker(x, 1, 0, 1, 5, 6, 1, 0);
        taker(x, 1, 1, 0, 8, 9, 0, 0);
        taker(x, 1, 2, 3, 12, 0, 0, 1);
        x.under(1, 0);
        taker(x, 2, 0, 0, 5, 15, 0, 0);
        Check.tell(x, 0, "!F");
        taker(x, 2, 0, 0, 5, 0, 0, 1);
        WaysOut y = Check.told("?{!A}{!B}", "T{@a}A{T{^}B{}A{}}");
        y.under(1, 0);
        taker(y, 1, 0, 0, 5, 3, 0, 0);
        taker(y, 1, 1, 1, 11, 2, 1, 0);
        taker(y, 1, 2, 0, 14, 1, 1, 0);
        WaysOut z = Check.told("T{!A}A{!B}B{}", "T{T{!A}A{^}}A{}", "T{T{!A}Z{!B}}A{}B{}");
        taker(z, 0, 1, 1, 10, 0, 0, 1);
        taker(z, 1, 1, 0, 12, 1, 1, 0);
        taker(z, 2, 0, 0, 13, 0, 0, 1);
        taker(z, 2, 1, 1, 16, 2, 1, 0);
    }

    private static void neverBehindWhatDoesNotEnd() {
        WaysOut x = Check.told("@a", "@aT{!A}A{}", "T{@a}A{}", "!BT{!A}A{}", ".T{!A}A{}", "?{.}{!B}T{!A}A{}",
                "T{!A}A{@a}", "T{T{!A}A{@a}Z{!B}}B{}");
        for (int r = 1; r < 6; r++) {
            Check.due("taker(" + r + ", 0, 4)", x.taker(r, 0, 4), 1);
            Check.due("taker(" + r + ", 0, 2)", x.taker(r, 0, 2), 0);
        }
        taker(x, 6, 0, 0, 5, 1, 0, 0);
        taker(x, 7, 0, 0, 7, 1, 0, 0);
        taker(x, 7, 1, 1, 18, 0, 0, 1);
        WaysOut y = Check.told("@a", "?{@a}{}T{!A}A{}", "*{@a}T{!A}A{}", "T{@a}Z{T{!A}A{}}", "T{T{!A}A{}@a}B{}",
                "?{@f}{!C}", "T{@f}C{@a}");
        taker(y, 1, 0, 0, 12, 1, 1, 0);
        taker(y, 2, 0, 0, 10, 1, 1, 0);
        taker(y, 3, 0, 0, 12, 0, 0, 1);
        taker(y, 4, 0, 0, 7, 1, 1, 0);
        taker(y, 6, 0, 2, 5, 4, 0, 0);
    }

    private static void reachedInside() {
        WaysOut x = Check.told("T{.}Z{T{!A}A{}}", "T{!B}Z{T{!A}A{}}", "T{}Z{T{!A}A{}}", "*{T{!A}A{}.}", "?{.}{T{!A}A{}}",
                "T{!B}B{T{!A}A{}}", "T{.}Z{}T{!A}A{}", "T{!B}B{.}Z{}T{!A}A{}");
        WaysOut y = Check.told("?{!B}{!C}", "T{T{@a}A{T{!D}Z{^}}}B{}C{}");
        y.under(1, 0);
        y.under(2, 0);
        taker(y, 1, 0, 0, 7, 6, 0, 0);
        taker(y, 1, 1, 1, 20, 2, 1, 0);
        taker(y, 1, 2, 2, 23, 4, 1, 0);
        int[] last = {0, 0, 0, 0, 0, 1, 0, 1};
        int[] want = {1, 1, 1, 1, 1, 1, 0, 0};
        for (int r = 0; r < want.length; r++) {
            Check.due("taker(" + r + ", " + last[r] + ", 2)", x.taker(r, last[r], 2), want[r]);
        }
    }

    private static void swallows() {
        WaysOut x = Check.told("T{!A}A{}", "T{!A}A{*{}}", "T{}A{}", "T{!A}A{.}", "T{!A}B{}A{^}", "T{!A}A{}Z{!B}");
        int[] want = {1, 0, 0, 0, 0, 1};
        for (int r = 0; r < want.length; r++) {
            Check.due("taker(" + r + ", 0, 3)", x.taker(r, 0, 3), want[r]);
        }
    }

    /** What a ROUTINE is called for by others changes nothing, what it calls does. */
    private static void ofItselfAlone() {
        WaysOut x = Check.told("T{@b}A{}", "!B", "T{@a!A}A{}B{}");
        taker(x, 0, 0, 0, 5, 0, 0, 1);
        taker(x, 2, 0, 0, 7, 0, 0, 1);
        taker(x, 2, 1, 1, 10, 2, 1, 0);
        Check.tell(x, 1, "?{!B}{!A}");
        taker(x, 0, 0, 0, 5, 1, 1, 0);
        taker(x, 2, 0, 0, 7, 1, 1, 0);
        WaysOut y = Check.told("?{!A}{T{+0@a}A{-0!B}B{}}");
        taker(y, 0, 0, 0, 13, 1, 0, 0);
        taker(y, 0, 1, 1, 20, 2, 1, 0);
    }

    private static void lost() {
        lost("T{!A}Z{}", 0);
        lost("T{!A}Z{.}", 1);
        lost("T{!A}Z{!A}", 1);
        lost("T{!A}Z{!B}", 1);
        lost("T{.}Z{!B}", 0);
        lost("T{}Z{!B}", 0);
        lost("T{!A}A{}Z{!B}", 0);
        lost("T{!A}A{!C}Z{!B}", 4);
        lost("T{!A}A{^}Z{.}", 1);
        lost("T{?{!A}{?{!B}{!F}}}B{}Z{?{}{.}}", 33);
        lost("T{!A}Z{T{!B}Z{!C}}", 3);
        lost("T{!A}Z{T{!B}B{}}", 0);
        lost("T{T{!A}Z{+0}}Z{!E}", 1);
        lost("T{!A}A{T{!B}Z{^}}", 2);
        lost("T{!A}A{T{^}Z{^}}", 1);
        lost("T{!A}Z{*{.}}", 1);
        lost(".T{!A}Z{.}", 0);
        WaysOut x = Check.told("?{!A}{!C}", "T{@a}Z{@c}", "?{}{!B}", "T{@b}Z{!D}", "@b");
        Check.due("lost(1)", x.lost(1), 5);
        Check.due("lost(0)", x.lost(0), 0);
        Check.due("lost(3)", x.lost(3), 7);
        Check.due("lost by what it calls is not lost by it", x.lost(4), 0);
        Check.tell(x, 2, "");
        Check.due("lost(1)", x.lost(1), 0);
        Check.due("lost(3)", x.lost(3), 5);
    }

    private static void lostBehindWhatDoesNotEnd() {
        WaysOut x = Check.told("@a", "T{!A}Z{@a}", "T{!A}Z{.}@a", "T{T{!A}Z{.}}Z{@a}", "@aT{!A}Z{.}", "T{!A}A{@a}Z{.}",
                "T{!A}Z{@a.}");
        int[] want = {0, 0, 1, 1, 0, 0, 0};
        for (int r = 0; r < want.length; r++) {
            Check.due("lost(" + r + ")", x.lost(r), want[r]);
        }
    }

    private static void wrong() {
        WaysOut x = Check.told("T{!A}A{}");
        for (int r : new int[] {-1, 8, Integer.MIN_VALUE, Integer.MAX_VALUE}) {
            Check.due("takers(" + r + ")", x.takers(r), WaysOut.NONE);
            Check.due("taker(" + r + ", 0, 0)", x.taker(r, 0, 0), WaysOut.NONE);
            Check.due("lost(" + r + ")", x.lost(r), WaysOut.NONE);
        }
        for (int n : new int[] {-1, 5, Integer.MIN_VALUE, Integer.MAX_VALUE}) {
            Check.due("taker(0, " + n + ", 0)", x.taker(0, n, 0), WaysOut.NONE);
            Check.due("taker(0, 0, " + n + ")", x.taker(0, 0, n), WaysOut.NONE);
        }
        Check.due("taker(0, 1, 0)", x.taker(0, 1, 0), WaysOut.NONE);
        Check.due("taker(1, 0, 0)", x.taker(1, 0, 0), WaysOut.NONE);
    }
}

/** Promises 10, 11 and 12: a test for each sentence on TAKERS, what they take, and what ENDINGS lose. */
public final class EdgesTakersTest {
    private static final int NONE = WaysOut.NONE;

    public static void main(String[] args) {
        howMany();
        takersNoSuchOne();
        numbers();
        kindAndPlace();
        takenByTheFirst();
        takenAsBits();
        takenAgain();
        takenBehindWhatDoesNotGoOn();
        takenBehindWhatGoesOn();
        takenInAllBlocks();
        notInCallers();
        endIsNotAsked();
        never();
        swallows();
        oneOrZero();
        otherTakers();
        lostByReturn();
        lostOnItsWay();
        notLost();
        lostByItsText();
        lostEndIsNotAsked();
        lostOrTaken();
        lostNoSuchOne();
        Check.finish("EdgesTakersTest");
    }

    private static void taker(WaysOut x, int r, int h, int... want) {
        for (int what = 0; what < want.length; what++) {
            Check.due("taker(" + r + ", " + h + ", " + what + ")", x.taker(r, h, what), want[what]);
        }
    }

    private static void lost(String text, int want) {
        Check.due("lost by " + text, Check.told(text).lost(0), want);
    }

    private static void howMany() {
        Check.sentence(10, "How many TAKERS ROUTINE r has");
        String six = "A{}B{}C{}D{}E{}F{}";
        String most = ("T{}" + six).repeat(2) + "T{}" + six.substring(0, 15);
        WaysOut x = Check.told("", "T{}Z{}", "T{}A{}", "T{}" + six, "T{T{}A{}}B{T{}C{}}Z{T{}D{}}", most, ".", "@f");
        int[] want = {0, 0, 1, 6, 4, 17, 0, 0};
        for (int r = 0; r < 8; r++) {
            Check.due("takers(" + r + ")", x.takers(r), want[r]);
        }
        Check.due("the longest TEXT", most.length(), 60);
        Check.due("an empty TEXT", x.text(5, 0), 0);
        Check.due("takers(5)", x.takers(5), 0);
    }

    private static void takersNoSuchOne() {
        Check.sentence(10, "NONE: no such one");
        WaysOut x = Check.told("", "", "", "", "", "", "", "T{}A{}");
        for (int r : Check.noneOf(7)) {
            Check.due("takers(" + r + ")", x.takers(r), NONE);
        }
        Check.due("takers(7)", x.takers(7), 1);
    }

    private static void numbers() {
        Check.sentence(11, "TAKERS of a ROUTINE have numbers from 0 on, as their KINDS stand in the TEXT.");
        WaysOut x = Check.told("T{T{}F{}}A{T{}E{}B{}}C{}Z{T{}D{}}");
        int[] kinds = {5, 0, 4, 1, 2, 3};
        int[] places = {5, 9, 14, 17, 21, 29};
        for (int h = 0; h < 6; h++) {
            taker(x, 0, h, kinds[h], places[h]);
        }
    }

    private static void kindAndPlace() {
        Check.sentence(11, "what 0 its KIND, 1 its place in the TEXT");
        WaysOut x = Check.told("T{}A{}", ".".repeat(54) + "T{}F{}", "T{}" + "A{}".repeat(6));
        taker(x, 0, 0, 0, 3);
        taker(x, 1, 0, 5, 57);
        taker(x, 2, 5, 0, 18);
    }

    private static void takenByTheFirst() {
        Check.sentence(11, "goes to the first TAKER of whose KIND it IS");
        WaysOut x = Check.told("T{!C}B{}A{}C{}");
        int[][] taken = {{0, 0, 4}, {0, 4, 0}, {4, 0, 0}};
        for (int n = 0; n < 3; n++) {
            for (int h = 0; h < 3; h++) {
                Check.due("taker(0, " + h + ", 2)", x.taker(0, h, 2), taken[n][h]);
                Check.due("taker(0, " + h + ", 4)", x.taker(0, h, 4), taken[n][h] == 0 ? 1 : 0);
            }
            Check.due("under", n == 0 ? x.under(2, 0) : x.under(2, 1), true);
        }
    }

    private static void takenAsBits() {
        Check.sentence(11, "2 TAKEN, as bits");
        WaysOut x = Check.told("?{!A}{?{!B}{?{!C}{?{!D}{?{!E}{!F}}}}}", "T{@a}A{^}", "T{@a}F{}A{}", "T{}A{}");
        taker(x, 1, 0, 0, 5, 1);
        taker(x, 2, 0, 5, 5, 32);
        taker(x, 3, 0, 0, 3, 0);
        for (int k = 1; k < 6; k++) {
            x.under(k, 0);
        }
        taker(x, 1, 0, 0, 5, 63);
        taker(x, 2, 0, 5, 5, 32);
        taker(x, 2, 1, 0, 8, 31);
        taker(x, 3, 0, 0, 3, 0);
    }

    private static void takenAgain() {
        Check.sentence(11, "raises again what the TAKER in which it stands took");
        WaysOut x = Check.told("?{!A}{?{!B}{!C}}", "T{@a}A{T{^}B{}A{}}C{T{*{^}}A{}C{}}");
        taker(x, 1, 0, 0, 5, 1, 0, 0);
        taker(x, 1, 1, 1, 11, 0, 0, 1);
        taker(x, 1, 2, 0, 14, 1, 1, 0);
        taker(x, 1, 3, 2, 18, 4, 0, 0);
        taker(x, 1, 4, 0, 27, 0, 0, 1);
        taker(x, 1, 5, 2, 30, 4, 1, 0);
        x.under(1, 0);
        taker(x, 1, 0, 0, 5, 3, 0, 0);
        taker(x, 1, 1, 1, 11, 2, 1, 0);
        taker(x, 1, 2, 0, 14, 1, 1, 0);
    }

    /** What is TAKEN by the last TAKER of each ROUTINE. */
    private static void lastTaken(WaysOut x, int... want) {
        for (int r = 0; r < want.length; r++) {
            Check.due("last taker of " + r, x.taker(r, x.takers(r) - 1, 2), want[r]);
        }
    }

    private static void takenBehindWhatGoesOn() {
        Check.sentence(11, "TAKEN by one: KINDS that come to it");
        lastTaken(Check.told("+0-1T{!A}A{}", "@hT{!A}A{}", "?{}{.}T{!A}A{}", "?{!B}{}T{!A}A{}", "T{}B{}T{!A}A{}",
                "T{}Z{}T{!A}A{}", "T{!B}B{}Z{+0}T{!A}A{}", "?{@h.}{}"), 1, 1, 1, 1, 1, 1, 1);
        lastTaken(Check.told("T{}Z{T{!A}A{}}", "T{.}Z{T{!A}A{}}", "T{!B}B{}T{!A}A{}", "T{!B}Z{T{!A}A{}}", "*{}T{!A}A{}",
                "?{}{}T{!A}A{}", "T{!B}Z{?{}{.}T{!A}A{}}", "T{}Z{?{}{!B}}T{!A}A{}"), 1, 1, 1, 1, 1, 1, 1, 1);
    }

    private static void takenInAllBlocks() {
        Check.sentence(11, "RUNS are all ways to go through, whatever is chosen");
        WaysOut x = Check.told("?{T{!A}A{}}{T{!B}B{}}", "*{T{!C}C{}}", "T{T{!D}D{}!E}E{T{!F}F{}}Z{T{!A}A{}}");
        int[][] want = {{1, 2}, {4}, {8, 16, 32, 1}};
        for (int r = 0; r < want.length; r++) {
            for (int h = 0; h < want[r].length; h++) {
                Check.due("taker(" + r + ", " + h + ", 2)", x.taker(r, h, 2), want[r][h]);
            }
        }
    }

    private static void takenBehindWhatDoesNotGoOn() {
        Check.sentence(11, "KINDS that come to it in RUNS of that ROUTINE begun with nothing open");
        lastTaken(Check.told(".T{!A}A{}", "!BT{!A}A{}", "T{.}Z{}T{!A}A{}", "?{.}{!B}T{!A}A{}", "T{!B}B{^}Z{}T{!A}A{}",
                "T{}Z{.}T{!A}A{}", "@hT{!A}A{}", "?{!A}{!B}"), 0, 0, 0, 0, 0, 0, 0);
        lastTaken(Check.told("T{!B}Z{}T{!A}A{}", "T{!B}B{.}T{!A}A{}", "T{!B}A{}", "T{!B}B{.!A}A{}", "T{!B}Z{!C}T{!A}A{}",
                "*{.T{!A}A{}}", "@gT{!A}A{}"), 0, 0, 0, 0, 0, 0, 0);
    }

    private static void notInCallers() {
        Check.sentence(11, "(of these alone: not in RUNS of ROUTINES that call it");
        WaysOut x = Check.told("T{.!A}A{}", "T{+0+1@a!B}A{}B{}", "T{@b}A{}");
        taker(x, 0, 0, 0, 6, 0, 0, 1);
        taker(x, 1, 0, 0, 11, 0, 0, 1);
        taker(x, 1, 1, 1, 14, 2, 1, 0);
        taker(x, 2, 0, 0, 5, 0, 0, 1);
        Check.tell(x, 0, "T{!A}A{}");
        taker(x, 0, 0, 0, 5, 1, 1, 0);
        Check.due("what a called one takes is not the caller's", x.taker(2, 0, 2), 0);
    }

    private static void endIsNotAsked() {
        Check.sentence(11, "whether a RUN ever ends behind that is not asked)");
        WaysOut x = Check.told("T{!A}A{@a}", "T{!A}A{}@h", "T{T{!A}A{}@h}B{}", "@hT{!A}A{}", "T{@h}A{}", "T{@h!A}A{}",
                "T{!A}A{@h}Z{T{!B}B{}}", "@h");
        int[][] want = {{1}, {1}, {1, 0}, {0}, {0}, {0}, {1, 0}};
        for (int r = 0; r < want.length; r++) {
            Check.due("ends(" + r + ", 0)", x.ends(r, 0), 0);
            for (int h = 0; h < want[r].length; h++) {
                Check.due("taker(" + r + ", " + h + ", 2)", x.taker(r, h, 2), want[r][h]);
            }
        }
    }

    private static void never() {
        Check.sentence(11, "It is NEVER reached if there is none");
        WaysOut x = Check.told("T{}A{}", "T{!B}A{}", "T{!A}A{}A{}", "T{!A}A{!B}B{}", "T{!A}A{}", "T{?{}{!A}}A{.}");
        int[] last = {1, 1, 1, 1, 0, 0};
        for (int r = 0; r < last.length; r++) {
            Check.due("last taker of " + r, x.taker(r, x.takers(r) - 1, 4), last[r]);
        }
        Check.due("taker(2, 0, 4)", x.taker(2, 0, 4), 0);
    }

    private static void swallows() {
        Check.sentence(11, "it SWALLOWS if there is one and its BLOCK has no STATEMENT");
        WaysOut x = Check.told("T{!A}A{}", "T{}A{}", "T{!A}A{.}", "T{!A}A{*{}}", "T{!A}A{?{}{}}", "T{!A}A{^}",
                "T{!A}A{}Z{!B}", "T{!B}A{}");
        int[] want = {1, 0, 0, 0, 0, 0, 1, 0};
        for (int r = 0; r < 8; r++) {
            Check.due("taker(" + r + ", 0, 3)", x.taker(r, 0, 3), want[r]);
        }
    }

    private static void oneOrZero() {
        Check.sentence(11, "3 whether it SWALLOWS, 4 whether it is NEVER reached (1, 0)");
        WaysOut x = Check.told("T{!F}F{}", "T{!F}F{.}", "T{}F{}", "T{}F{.}");
        int[][] want = {{1, 0}, {0, 0}, {0, 1}, {0, 1}};
        for (int r = 0; r < 4; r++) {
            Check.due("taker(" + r + ", 0, 3)", x.taker(r, 0, 3), want[r][0]);
            Check.due("taker(" + r + ", 0, 4)", x.taker(r, 0, 4), want[r][1]);
        }
    }

    private static void otherTakers() {
        Check.sentence(11, "NONE for others");
        WaysOut x = Check.told("T{!A}A{}B{}");
        for (int what = 0; what < 5; what++) {
            Check.due("taker(0, 1, " + what + ")", x.taker(0, 1, what), new int[] {1, 8, 0, 0, 1}[what]);
            for (int r : Check.noneOf(7)) {
                Check.due("taker(" + r + ", 0, " + what + ")", x.taker(r, 0, what), NONE);
            }
            for (int h : Check.noneOf(1)) {
                Check.due("taker(0, " + h + ", " + what + ")", x.taker(0, h, what), NONE);
            }
            Check.due("taker(7, 0, " + what + ") of an empty TEXT", x.taker(7, 0, what), NONE);
        }
        for (int what : Check.noneOf(4)) {
            Check.due("taker(0, 0, " + what + ")", x.taker(0, 0, what), NONE);
        }
    }

    private static void lostByReturn() {
        Check.sentence(12, "if the ENDING returns or is left by a refusal, that goes on in its place");
        lost("T{!A}Z{.}", 1);
        lost("T{!A}Z{!B}", 1);
        lost("T{!A}Z{!A}", 1);
        lost("T{!A}Z{?{}{!B}}", 1);
        lost("T{!F}Z{*{.}}", 32);
        Check.due("lost by what the ENDING calls", Check.told("T{!A}Z{@b}", "!B").lost(0), 1);
    }

    private static void lostOnItsWay() {
        Check.sentence(12, "a refusal that was on its way then is LOST");
        lost("T{!A}A{!C}Z{!B}", 4);
        lost("T{!A}A{^}Z{.}", 1);
        lost("T{!A}Z{T{!B}Z{!C}}", 3);
        lost("T{T{!A}Z{+0}}Z{!E}", 1);
        lost("T{!A}A{T{!B}Z{^}}", 2);
        lost("T{?{!A}{?{!B}{!F}}}B{}Z{.}", 33);
        WaysOut x = Check.told("?{!A}{?{!B}{?{!C}{?{!D}{?{!E}{!F}}}}}", "T{@a}Z{.}");
        Check.due("lost(1)", x.lost(1), 63);
    }

    private static void notLost() {
        Check.sentence(12, "if it ends at its end, that goes on as it was");
        lost("", 0);
        lost("!A", 0);
        lost("T{!A}Z{}", 0);
        lost("T{!A}A{}", 0);
        lost("T{!A}Z{+0*{-0}}", 0);
        lost("T{!A}Z{T{!B}B{}}", 0);
        lost("T{}Z{!B}", 0);
        lost("T{.}Z{!B}", 0);
        lost("T{!A}A{}Z{!B}", 0);
        lost("T{!A}A{.}Z{!B}", 0);
    }

    private static void lostByItsText() {
        Check.sentence(12, "KINDS that are LOST by an ENDING of its TEXT in such RUNS");
        WaysOut x = Check.told("T{!A}Z{.}", "@a", "T{@a!C}Z{!B}", ".T{!A}Z{.}", "!BT{!A}Z{.}", "T{!A}A{T{}A{}}Z{.}");
        int[] want = {1, 0, 4, 0, 0, 0};
        for (int r = 0; r < want.length; r++) {
            Check.due("lost(" + r + ")", x.lost(r), want[r]);
        }
    }

    private static void lostEndIsNotAsked() {
        Check.sentence(12, "in such RUNS, likewise");
        WaysOut x = Check.told("@a", "T{T{!A}Z{.}}Z{@a}", "T{T{!A}Z{!B}}B{@a}", "@aT{!A}Z{.}", "T{!A}Z{@a}", "T{!A}Z{@a.}",
                "T{!A}A{@a}Z{.}", "T{!A@a}Z{?{@a}{.}}");
        int[] want = {0, 1, 1, 0, 0, 0, 0, 1};
        for (int r = 0; r < want.length; r++) {
            Check.due("lost(" + r + ")", x.lost(r), want[r]);
        }
    }

    private static void lostOrTaken() {
        Check.sentence(12, "goes to the first TAKER of whose KIND it IS");
        WaysOut x = Check.told("T{?{!B}{!C}}A{}Z{.}");
        Check.due("lost(0)", x.lost(0), 6);
        Check.due("under(1, 0)", x.under(1, 0), true);
        Check.due("lost(0)", x.lost(0), 4);
        Check.due("under(2, 1)", x.under(2, 1), true);
        Check.due("lost(0)", x.lost(0), 0);
        Check.due("under(1, NONE)", x.under(1, NONE), true);
        Check.due("lost(0)", x.lost(0), 6);
    }

    private static void lostNoSuchOne() {
        Check.sentence(12, "NONE: no such one");
        WaysOut x = Check.told("", "", "", "", "", "", "", "T{!A}Z{.}");
        for (int r : Check.noneOf(7)) {
            Check.due("lost(" + r + ")", x.lost(r), NONE);
        }
        Check.due("lost(7)", x.lost(7), 1);
    }
}

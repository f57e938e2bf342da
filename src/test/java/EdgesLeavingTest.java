/** Promises 6 to 9: a test for each sentence on how RUNS go, on STEPS, EXITS and DUES. */
public final class EdgesLeavingTest {
    private static final int NONE = WaysOut.NONE;

    public static void main(String[] args) {
        begunOpen();
        leftOpen();
        openAsBits();
        exits();
        cantBe();
        stepsNoSuchOnes();
        fewest();
        stepsAreCounted();
        notDone();
        most();
        mostNeverWraps();
        opensAgain();
        shutsAgain();
        noStatements();
        oneOrTheOther();
        noneOneOrSeveral();
        innermostTaker();
        firstTaker();
        withoutTaker();
        mostBlocks();
        otherTakers();
        endingRuns();
        endingEnds();
        endingInItsPlace();
        leftNormally();
        whereItWasCalled();
        whateverIsChosen();
        callThemselves();
        leavesBits();
        leavesNoSuchOnes();
        endsOrNot();
        endsNoSuchOnes();
        duesOpen();
        duesInOrder();
        noSuchDue();
        Check.finish("EdgesLeavingTest");
    }

    /** Each ROUTINE can be left by every EXIT with whatever open: what is answered NONE is so for the question alone. */
    private static WaysOut allWays() {
        String all = "*{?{?{+0}{-0}}{?{+1}{-1}}}?{}{@h}";
        return Check.told(all, all, all, all, all, all, all, "*{?{?{!A}{!B}}{?{!C}{?{!D}{?{!E}{!F}}}}}");
    }

    private static void begunOpen() {
        Check.sentence(6, "begun with THINGS s open (0 to 3)");
        WaysOut x = Check.told("!A");
        for (int s = 0; s < 4; s++) {
            Ways.due(x, 0, s, "1:" + s + "=1");
        }
        WaysOut all = allWays();
        for (int s : Check.noneOf(3)) {
            for (int t = 0; t < 4; t++) {
                for (int exit = 0; exit < 7; exit++) {
                    Check.due("steps(1, " + s + ", " + exit + ", " + t + ")", all.steps(1, s, exit, t), NONE);
                }
            }
        }
    }

    private static void leftOpen() {
        Check.sentence(6, "with THINGS t open");
        WaysOut x = Check.told("*{?{+0}{+1}}");
        int[] want = {0, 1, 1, 2};
        for (int t = 0; t < 4; t++) {
            Check.due("steps(0, 0, 0, " + t + ")", x.steps(0, 0, 0, t), want[t]);
        }
        WaysOut all = allWays();
        for (int t : Check.noneOf(3)) {
            for (int s = 0; s < 4; s++) {
                for (int exit = 0; exit < 7; exit++) {
                    Check.due("steps(1, " + s + ", " + exit + ", " + t + ")", all.steps(1, s, exit, t), NONE);
                }
            }
        }
    }

    private static void openAsBits() {
        Check.sentence(6, "THINGS 0 and 1 are open or shut; what is open is told as bits");
        Ways.due("+0", 0, "0:1=1");
        Ways.due("+1", 0, "0:2=1");
        Ways.due("+0+1", 0, "0:3=2");
        Ways.due("-0", 3, "0:2=1");
        Ways.due("-1", 3, "0:1=1");
        Ways.due("-0-1", 3, "0:0=2");
    }

    private static void exits() {
        Check.sentence(6, "LEFT: by EXIT 0 normally, 1 to 6 by a refusal of KIND A to F.");
        WaysOut x = Check.told("", "!A", "!B", "!C", "!D", "!E", "!F");
        for (int r = 0; r < 7; r++) {
            for (int exit = 0; exit < 7; exit++) {
                Check.due("steps(" + r + ", 0, " + exit + ", 0)", x.steps(r, 0, exit, 0), r != exit ? NONE : r == 0 ? 0 : 1);
            }
        }
        WaysOut all = allWays();
        for (int exit : Check.noneOf(6)) {
            for (int s = 0; s < 4; s++) {
                for (int t = 0; t < 4; t++) {
                    Check.due("steps(1, " + s + ", " + exit + ", " + t + ")", all.steps(1, s, exit, t), NONE);
                }
            }
        }
    }

    private static void cantBe() {
        Check.sentence(6, "NONE: it can't be");
        Ways.due("@a", 0, "");
        Ways.due("*{@a}@a", 3, "");
        Ways.due("T{@a}A{}Z{.}", 0, "");
        Ways.due("+0", 2, "0:3=1");
        Ways.due("-1!A", 3, "1:1=2");
    }

    private static void stepsNoSuchOnes() {
        Check.sentence(6, "NONE: it can't be, no such ones");
        WaysOut x = allWays();
        for (int r : Check.noneOf(7)) {
            Check.due("steps(" + r + ", 0, 0, 0)", x.steps(r, 0, 0, 0), NONE);
        }
        Check.due("steps(7, 0, 0, 0)", x.steps(7, 0, 0, 0), 0);
    }

    private static void fewest() {
        Check.sentence(6, "Fewest STEPS");
        Ways.due("?{+0+0+0}{+0}", 0, "0:1=1");
        Ways.due("?{+0}{+0+0+0}", 0, "0:1=1");
        Ways.due("?{+0-0+0}{?{+0+0.}{+0.}}", 0, "0:1=2");
        Ways.due("*{+0*{+1}-0}?{!A}{+0!A}", 0, "1:0=1 1:1=2 1:2=4 1:3=5");
        Ways.due(Check.told("?{@b}{+0+0+0+0}", "?{@a}{+0+0}"), 0, 0, "0:1=3");
    }

    private static void stepsAreCounted() {
        Check.sentence(6, "each ! ^ @ + - . that is done (also in what is called)");
        Ways.due("", 0, "0:0=0");
        Ways.due("!A", 0, "1:0=1");
        Ways.due("T{!A}A{^}", 0, "1:0=2");
        Ways.due("+0", 0, "0:1=1");
        Ways.due("-0", 0, "0:0=1");
        Ways.due(".", 0, "0:0=1");
        Ways.due("@h", 0, "0:0=1");
        Ways.due(Check.told("@b@b", "+0@c", ".."), 0, 0, "0:1=8");
        Ways.due("?{}{}*{}T{}A{}Z{}", 0, "0:0=0");
    }

    private static void notDone() {
        Check.sentence(6, "that is done");
        Ways.due("..+0!A", 0, "0:0=1");
        Ways.due("!A!B..", 0, "1:0=1");
        Ways.due("T{.+0}Z{-1+1}+0", 0, "0:2=3");
        Ways.due("?{.}{!A}+0", 0, "0:0=1 1:0=1");
        Ways.due("T{}A{+0}+1", 0, "0:2=1");
    }

    /** 110 STEPS are ROUTINE 1's, 9 of these are 999 with their calls; single ones are added to come near it. */
    private static void most() {
        Check.sentence(6, "more than 999 count as 999");
        WaysOut x = Check.told("+0".repeat(10), "@a".repeat(10));
        Check.due("steps(1, 0, 0, 1)", x.steps(1, 0, 0, 1), 110);
        String near = "@b".repeat(8) + "@a".repeat(9);
        Check.tell(x, 2, near + "+0".repeat(11));
        Check.due("998", x.steps(2, 0, 0, 1), 998);
        Check.tell(x, 2, near + "+0".repeat(12));
        Check.due("999", x.steps(2, 0, 0, 1), 999);
        Check.tell(x, 2, near + "+0".repeat(12) + ".");
        Check.due("1000", x.steps(2, 0, 0, 1), 999);
        Check.tell(x, 2, near + "+0".repeat(12) + "!F");
        Check.due("1000, by a refusal", x.steps(2, 0, 6, 1), 999);
        Check.tell(x, 3, "@c@c");
        Check.due("never less, and not NONE", x.steps(3, 0, 6, 1), 999);
        Check.tell(x, 4, "?{@d}{!F}");
        Ways.due(x, 4, 0, "6:0=1 6:1=999");
        Check.tell(x, 5, "T{@c}F{@c}Z{@c}");
        Ways.due(x, 5, 0, "6:1=999");
    }

    /** 30 calls of what makes 30 calls, seven times over: over 600 thousand million STEPS, far more than an int holds. */
    private static void mostNeverWraps() {
        Check.sentence(6, "more than 999 count as 999");
        WaysOut x = Check.told("+0".repeat(30));
        for (int r = 1; r < 8; r++) {
            Check.tell(x, r, ("@" + (char) ('a' + r - 1)).repeat(30));
        }
        Check.due("steps(1, 0, 0, 1)", x.steps(1, 0, 0, 1), 930);
        for (int r = 2; r < 8; r++) {
            for (int s = 0; s < 4; s++) {
                Check.due("steps(" + r + ", " + s + ", 0, " + (s | 1) + ")", x.steps(r, s, 0, s | 1), 999);
            }
        }
        Ways.due(x, 7, 2, "0:3=999");
    }

    private static void opensAgain() {
        Check.sentence(6, "opens it (also if it is open)");
        for (int s = 0; s < 4; s++) {
            Ways.due("+0", s, "0:" + (s | 1) + "=1");
            Ways.due("+1", s, "0:" + (s | 2) + "=1");
        }
        Ways.due("+0+0", 0, "0:1=2");
    }

    private static void shutsAgain() {
        Check.sentence(6, "shuts it (also if it is shut)");
        for (int s = 0; s < 4; s++) {
            Ways.due("-0", s, "0:" + (s & 2) + "=1");
            Ways.due("-1", s, "0:" + (s & 1) + "=1");
        }
        Ways.due("-1-1", 3, "0:1=2");
    }

    private static void noStatements() {
        Check.sentence(6, "a row of STATEMENTS (none, too)");
        for (int s = 0; s < 4; s++) {
            Ways.due("", s, "0:" + s + "=0");
            Ways.due("?{}{}", s, "0:" + s + "=0");
            Ways.due("*{}", s, "0:" + s + "=0");
            Ways.due("T{}Z{}", s, "0:" + s + "=0");
            Ways.due("T{!A}A{}Z{}", s, "0:" + s + "=1");
        }
    }

    private static void oneOrTheOther() {
        Check.sentence(6, "? BLOCK BLOCK: the one or the other");
        Ways.due("?{}{.}!A", 0, "0:0=1 1:0=1");
        Ways.due("?{.}{}!A", 0, "0:0=1 1:0=1");
        Ways.due("?{+0}{+1}", 0, "0:1=1 0:2=1");
        Ways.due("?{!A}{@a}", 0, "1:0=1");
        Ways.due("?{@a}{!A}", 0, "1:0=1");
    }

    private static void noneOneOrSeveral() {
        Check.sentence(6, "* BLOCK: none, one or several times");
        Ways.due("*{!A}", 0, "0:0=0 1:0=1");
        Ways.due("*{.}!A", 0, "0:0=1 1:0=1");
        Ways.due("*{@a}!A", 0, "1:0=1");
        Ways.due("*{?{+0}{-1}}", 2, "0:0=1 0:1=2 0:2=0 0:3=1");
        Ways.due("*{?{-0-1}{+1}}", 1, "0:0=2 0:1=0 0:2=3 0:3=1");
        WaysOut x = Check.told("*{@b}", "?{-0+1}{?{+0!A}{-1+0}}");
        Ways.due(x, 0, 0, "0:0=0 0:1=3 0:2=3 1:1=3 1:3=6");
        Ways.due(x, 0, 3, "0:1=3 0:2=3 0:3=0 1:1=6 1:3=3");
    }

    private static void innermostTaker() {
        Check.sentence(6, "raises again what the TAKER in which it stands took (the innermost one in whose BLOCK it stands");
        Ways.due("T{!A}A{T{!B}B{^}}", 0, "2:0=3");
        Ways.due("T{!A}A{T{!B}B{}^}", 0, "1:0=3");
        Ways.due("T{!A}A{T{^}B{}}", 0, "1:0=2");
        Ways.due("T{!A}A{T{!B}B{}Z{^}}", 0, "1:0=3");
        Ways.due("T{!B}B{*{?{}{^}}}", 0, "0:0=1 2:0=2");
        WaysOut x = Check.told("T{!B}A{^}");
        x.under(1, 0);
        Ways.due(x, 0, 0, "2:0=2");
    }

    private static void firstTaker() {
        Check.sentence(6, "A refusal that leaves the BLOCK of T goes to the first TAKER of whose KIND it IS");
        Ways.due("T{!A}A{+0}A{+1}", 0, "0:1=2");
        WaysOut x = Check.told("T{!C}B{+0}A{+1}C{!F}");
        Ways.due(x, 0, 0, "6:0=2");
        x.under(2, 0);
        Ways.due(x, 0, 0, "0:2=2");
        x.under(0, 1);
        Ways.due(x, 0, 0, "0:1=2");
        WaysOut y = Check.told("T{!A}B{+0}");
        y.under(1, 0);
        Ways.due(y, 0, 0, "1:0=1");
        Ways.due("T{!F}A{}B{}C{}D{}E{}F{+0}", 0, "0:1=2");
    }

    /** Twenty-four BLOCKS are the most that 60 bytes hold, as each ? has two in five bytes. */
    private static void mostBlocks() {
        Check.sentence(6, "each with a TEXT of 60 bytes at most");
        Ways.due("?{}{}".repeat(12), 2, "0:2=0");
        Ways.due("?{}{}".repeat(10) + "?{.}{!A}", 0, "0:0=1 1:0=1");
        Ways.due("?{+0}{}" + "?{}{}".repeat(10), 0, "0:0=0 0:1=1");
        Ways.due("?{}{".repeat(8) + "!F" + "}".repeat(8), 0, "0:0=0 6:0=1");
    }

    private static void withoutTaker() {
        Check.sentence(6, "without such a one it goes on");
        Ways.due("T{+0!A}B{}C{}D{}E{}F{}", 0, "1:1=2");
        Ways.due("T{T{!A}B{-0}}A{+0}", 0, "0:1=2");
        Ways.due("T{!A}Z{}", 0, "1:0=1");
    }

    private static void otherTakers() {
        Check.sentence(6, "What leaves TAKERS goes on (other TAKERS of that T don't take it).");
        Ways.due("T{!A}A{!B}B{}", 0, "2:0=2");
        Ways.due("T{!A}A{!A}", 0, "1:0=2");
        Ways.due("T{!B}A{}B{!A}", 0, "1:0=2");
        Ways.due("T{T{!A}A{!B}B{}}B{+0}", 0, "0:1=3");
    }

    private static void endingRuns() {
        Check.sentence(6, "An ENDING runs whatever leaves the BLOCK, or the TAKER: at its end, by return or by a refusal");
        Ways.due("T{}Z{+0}!F", 0, "6:1=2");
        Ways.due("T{.}Z{+0}!F", 0, "0:1=2");
        Ways.due("T{!A}Z{+0}!F", 0, "1:1=2");
        Ways.due("T{!A}A{}Z{+0}!F", 0, "6:1=3");
        Ways.due("T{!A}A{.}Z{+0}!F", 0, "0:1=3");
        Ways.due("T{!A}A{!B}Z{+0}!F", 0, "2:1=3");
        Ways.due("T{!A}B{!C}Z{+0}!F", 0, "1:1=2");
    }

    private static void endingEnds() {
        Check.sentence(6, "if it ends at its end, that goes on as it was");
        Ways.due("T{?{!A}{?{.}{}}}Z{*{+0}}+1", 0, "0:0=1 0:1=2 0:2=1 0:3=2 1:0=1 1:1=2");
        Ways.due("T{!A}Z{T{!B}B{}}", 0, "1:0=2");
        Ways.due("T{!A}Z{T{}Z{}}", 0, "1:0=1");
        Ways.due(Check.told("T{!A}Z{@b}", "."), 0, 0, "1:0=3");
    }

    private static void endingInItsPlace() {
        Check.sentence(6, "if the ENDING returns or is left by a refusal, that goes on in its place");
        Ways.due("T{!A}Z{.}!F", 0, "0:0=2");
        Ways.due("T{.}Z{!B}!F", 0, "2:0=2");
        Ways.due("T{}Z{.}!F", 0, "0:0=1");
        Ways.due("T{}Z{!B}!F", 0, "2:0=1");
        Ways.due("T{!A}Z{!B}!F", 0, "2:0=2");
        Ways.due("T{!A}A{!C}B{}Z{!B}", 0, "2:0=3");
        Ways.due("T{T{!A}Z{!B}}B{+0}A{+1}", 0, "0:1=3");
        Ways.due("T{!A}Z{@a}", 0, "");
    }

    private static void leftNormally() {
        Check.sentence(6, "A ROUTINE is left normally at the TEXT's end or by return, or by a refusal that nothing takes");
        Ways.due("+0", 0, "0:1=1");
        Ways.due("+0.+1", 0, "0:1=2");
        Ways.due("*{?{T{.}A{}}{}}+0", 0, "0:0=1 0:1=1");
        Ways.due("T{*{!A}}B{}", 0, "0:0=0 1:0=1");
    }

    private static void whereItWasCalled() {
        Check.sentence(6, "that goes on where it was called");
        WaysOut x = Check.told("@b!F", "..", "T{@d}A{+0}+1", "!A", "@d!F", "T{@g}C{}", "T{@d}B{+0}");
        Ways.due(x, 0, 0, "6:0=3");
        Ways.due(x, 2, 0, "0:3=4");
        Ways.due(x, 4, 0, "1:0=2");
        Ways.due(x, 5, 0, "1:0=3");
    }

    private static void whateverIsChosen() {
        Check.sentence(6, "RUNS are all ways to go through, whatever is chosen");
        Ways.due("?{+0}{}?{+1}{}", 0, "0:0=0 0:1=1 0:2=1 0:3=2");
        Ways.due("?{+0}{+1}?{+0}{+1}", 0, "0:1=2 0:2=2 0:3=2");
        Ways.due(Check.told("@b@b", "?{+0}{+1}"), 0, 0, "0:1=4 0:2=4 0:3=4");
        Ways.due(Check.told("T{@b}Z{@b}", "?{!A}{!B}"), 0, 0, "1:0=4 2:0=4");
    }

    private static void callThemselves() {
        Check.sentence(6, "ROUTINES may call themselves, each other.");
        Ways.due("?{}{+0@a}", 0, "0:0=0 0:1=2");
        Ways.due("?{!A}{T{@a}A{+0!B}B{-0+1}}", 0, "0:2=7 1:0=1 2:1=4");
        WaysOut ring = Check.told("@b", "@c", "@d", "@e", "@f", "@g", "@h", "?{@a}{!D}");
        for (int r = 0; r < 8; r++) {
            Ways.due(ring, r, 3, "4:3=" + (8 - r));
        }
        Check.tell(ring, 7, "@a");
        for (int r = 0; r < 8; r++) {
            Ways.due(ring, r, 3, "");
        }
    }

    private static void leavesBits() {
        Check.sentence(7, "KINDS by which ROUTINE r can be left, begun with THINGS s open, as bits");
        WaysOut x = Check.told("?{!A}{?{!B}{?{!C}{?{!D}{?{!E}{!F}}}}}", "", "@c", "!F", ".!A", "T{@a}A{}F{}");
        int[] want = {63, 0, 0, 32, 0, 30};
        for (int r = 0; r < want.length; r++) {
            for (int s = 0; s < 4; s++) {
                Check.due("leaves(" + r + ", " + s + ")", x.leaves(r, s), want[r]);
            }
        }
    }

    private static void leavesNoSuchOnes() {
        Check.sentence(7, "NONE: no such ones");
        WaysOut x = allWays();
        for (int r : Check.noneOf(7)) {
            Check.due("leaves(" + r + ", 0)", x.leaves(r, 0), NONE);
        }
        for (int s : Check.noneOf(3)) {
            Check.due("leaves(0, " + s + ")", x.leaves(0, s), NONE);
        }
        Check.due("leaves(7, 3)", x.leaves(7, 3), 63);
    }

    private static void endsOrNot() {
        Check.sentence(8, "can be left normally: 1, 0");
        WaysOut x = Check.told("", ".", "!A", "@d", "?{!A}{}", "*{!A}", "T{!A}A{}", "T{}Z{!A}");
        int[] want = {1, 1, 0, 0, 1, 1, 1, 0};
        for (int r = 0; r < want.length; r++) {
            for (int s = 0; s < 4; s++) {
                Check.due("ends(" + r + ", " + s + ")", x.ends(r, s), want[r]);
            }
        }
    }

    private static void endsNoSuchOnes() {
        Check.sentence(8, "NONE: no such ones");
        WaysOut x = new WaysOut();
        for (int r : Check.noneOf(7)) {
            Check.due("ends(" + r + ", 0)", x.ends(r, 0), NONE);
        }
        for (int s : Check.noneOf(3)) {
            Check.due("ends(0, " + s + ")", x.ends(0, s), NONE);
        }
        Check.due("ends(7, 3)", x.ends(7, 3), 1);
    }

    private static void duesOpen() {
        Check.sentence(9, "an EXIT by which it can be left, begun with nothing open, with some THING open");
        WaysOut x = Check.told("+0-0", "!A", "+1", "?{}{+0+1!F}", "-0-1", "@f+0", "T{+0!A}Z{-0}", "");
        int[] first = {NONE, NONE, 2, 27, NONE, NONE, NONE, NONE};
        for (int r = 0; r < 8; r++) {
            Check.due("due(" + r + ", 0)", x.due(r, 0), first[r]);
            Check.due("due(" + r + ", 1)", x.due(r, 1), NONE);
        }
    }

    private static void duesInOrder() {
        Check.sentence(9, "by EXITS, then what is open: 4 times the EXIT and what is open");
        WaysOut x = Check.told("?{!A}{?{!B}{?{!C}{?{!D}{?{!E}{!F}}}}}", "*{?{+0}{+1}}?{}{@a}");
        int i = 0;
        for (int exit = 0; exit < 7; exit++) {
            for (int t = 1; t < 4; t++) {
                Check.due("due(1, " + i + ")", x.due(1, i), 4 * exit + t);
                i++;
            }
        }
        Check.due("due(1, 21)", x.due(1, 21), NONE);
    }

    private static void noSuchDue() {
        Check.sentence(9, "NONE: there is none such");
        WaysOut x = Check.told("+0");
        Check.due("due(0, 0)", x.due(0, 0), 1);
        for (int i : Check.noneOf(0)) {
            Check.due("due(0, " + i + ")", x.due(0, i), NONE);
        }
        for (int r : Check.noneOf(7)) {
            Check.due("due(" + r + ", 0)", x.due(r, 0), NONE);
        }
        Check.due("due(7, 0)", x.due(7, 0), NONE);
    }
}

/** Promises 4, 5, 13, 14 and 16: a test for each sentence on KINDS that lie UNDER others, and on PROMISES. */
public final class EdgesKindsTest {
    private static final int NONE = WaysOut.NONE;

    public static void main(String[] args) {
        justUnder();
        underNone();
        underNoSuchOnes();
        underItself();
        underOneBelow();
        underFarAbove();
        sixKinds();
        isThatOrUnder();
        isOneOrZero();
        isNoSuchOnes();
        promiseBits();
        promiseNoSuchOnes();
        promiseAtFirst();
        brokenOfNone();
        brokenAbove();
        brokenNotTaken();
        brokenNoSuchOne();
        idleOfTheSet();
        idleBelow();
        idleNeverLeft();
        idleNoSuchOne();
        Check.finish("EdgesKindsTest");
    }

    /** F lies UNDER E, E UNDER D, and so on up to A. */
    private static WaysOut chain() {
        WaysOut x = new WaysOut();
        for (int k = 1; k < 6; k++) {
            Check.due("under(" + k + ", " + (k - 1) + ")", x.under(k, k - 1), true);
        }
        return x;
    }

    private static void dueChain(WaysOut x) {
        for (int k = 0; k < 6; k++) {
            for (int of = 0; of < 6; of++) {
                Check.due("is(" + k + ", " + of + ")", x.is(k, of), k >= of ? 1 : 0);
            }
        }
    }

    private static void justUnder() {
        Check.sentence(4, "KIND k lies just UNDER another one");
        for (int k = 0; k < 6; k++) {
            WaysOut x = new WaysOut();
            for (int of = 0; of < 6; of++) {
                if (of != k) {
                    Check.due("under(" + k + ", " + of + ")", x.under(k, of), true);
                    for (int other = 0; other < 6; other++) {
                        Check.due("is(" + k + ", " + other + ")", x.is(k, other), other == of || other == k ? 1 : 0);
                    }
                }
            }
        }
    }

    private static void underNone() {
        Check.sentence(4, "(NONE: under none)");
        WaysOut x = chain();
        Check.due("under(3, NONE)", x.under(3, NONE), true);
        Check.due("is(3, 2)", x.is(3, 2), 0);
        Check.due("is(5, 0)", x.is(5, 0), 0);
        Check.due("is(5, 3)", x.is(5, 3), 1);
        Check.due("is(2, 0)", x.is(2, 0), 1);
        Check.due("under(3, NONE) once more", x.under(3, NONE), true);
        Check.due("under(0, 5), as F is UNDER A no more", x.under(0, 5), true);
        Check.due("is(2, 3)", x.is(2, 3), 1);
    }

    private static void underNoSuchOnes() {
        Check.sentence(4, "false: no such ones");
        WaysOut x = chain();
        for (int k : Check.noneOf(5)) {
            Check.due("under(" + k + ", 5)", x.under(k, 5), false);
            Check.due("under(" + k + ", NONE)", x.under(k, NONE), false);
            Check.due("under(" + k + ", " + k + ")", x.under(k, k), false);
        }
        for (int of : new int[] {-2, 6, Integer.MIN_VALUE, Integer.MAX_VALUE}) {
            Check.due("under(5, " + of + ")", x.under(5, of), false);
        }
        dueChain(x);
    }

    private static void underItself() {
        Check.sentence(4, "(None is UNDER itself.)");
        WaysOut x = new WaysOut();
        for (int k = 0; k < 6; k++) {
            Check.due("under(" + k + ", " + k + ")", x.under(k, k), false);
            Check.due("is(" + k + ", " + k + ")", x.is(k, k), 1);
        }
    }

    private static void underOneBelow() {
        Check.sentence(4, "one would be UNDER itself");
        WaysOut x = chain();
        for (int k = 0; k < 6; k++) {
            for (int of = k; of < 6; of++) {
                Check.due("under(" + k + ", " + of + ")", x.under(k, of), false);
            }
        }
        dueChain(x);
    }

    private static void underFarAbove() {
        Check.sentence(4, "what lies UNDER one that does lies UNDER it, too");
        dueChain(chain());
        WaysOut x = new WaysOut();
        int[] order = {4, 0, 3, 1, 5, 2};
        for (int i = 5; i > 0; i--) {
            Check.due("under(" + order[i] + ", " + order[i - 1] + ")", x.under(order[i], order[i - 1]), true);
        }
        for (int i = 0; i < 6; i++) {
            for (int j = 0; j < 6; j++) {
                Check.due("is(" + order[i] + ", " + order[j] + ")", x.is(order[i], order[j]), i >= j ? 1 : 0);
            }
        }
    }

    private static void sixKinds() {
        Check.sentence(16, "KINDS of refusals are 0 to 5, written A to F");
        for (int k = 0; k < 6; k++) {
            WaysOut x = Check.told("!" + (char) ('A' + k), "T{@a}" + (char) ('A' + k) + "{}");
            Check.due("is(" + k + ", " + k + ")", x.is(k, k), 1);
            Check.due("leaves of KIND " + k, x.leaves(0, 0), 1 << k);
            Check.due("taker of KIND " + k, x.taker(1, 0, 0), k);
        }
    }

    private static void isThatOrUnder() {
        Check.sentence(16, "A KIND IS of another one if it is that or UNDER it.");
        WaysOut x = new WaysOut();
        x.under(1, 0);
        x.under(2, 0);
        Check.due("is(1, 1): that", x.is(1, 1), 1);
        Check.due("is(1, 0): UNDER it", x.is(1, 0), 1);
        Check.due("is(0, 1): above it", x.is(0, 1), 0);
        Check.due("is(1, 2): beside it", x.is(1, 2), 0);
        Check.due("is(5, 0): neither", x.is(5, 0), 0);
    }

    private static void isOneOrZero() {
        Check.sentence(16, "Whether KIND k IS of KIND of: 1, 0");
        WaysOut x = new WaysOut();
        Check.due("is(5, 0)", x.is(5, 0), 0);
        Check.due("under(5, 0)", x.under(5, 0), true);
        Check.due("is(5, 0)", x.is(5, 0), 1);
        Check.due("is(0, 5)", x.is(0, 5), 0);
    }

    private static void isNoSuchOnes() {
        Check.sentence(16, "NONE: no such ones");
        WaysOut x = chain();
        for (int k : Check.noneOf(5)) {
            Check.due("is(" + k + ", 0)", x.is(k, 0), NONE);
            Check.due("is(5, " + k + ")", x.is(5, k), NONE);
            Check.due("is(" + k + ", " + k + ")", x.is(k, k), NONE);
        }
    }

    private static void promiseBits() {
        Check.sentence(5, "(bits, 0 to 63)");
        WaysOut x = new WaysOut();
        for (int kinds = 0; kinds < 64; kinds++) {
            Check.due("promise(7, " + kinds + ")", x.promise(7, kinds), true);
            Check.due("look(7, 3)", x.look(7, 3), kinds);
        }
        for (int kinds : Check.noneOf(63)) {
            Check.due("promise(7, " + kinds + ")", x.promise(7, kinds), false);
            Check.due("look(7, 3)", x.look(7, 3), 63);
        }
    }

    private static void promiseNoSuchOnes() {
        Check.sentence(5, "false: no such ones");
        WaysOut x = new WaysOut();
        for (int r : Check.noneOf(7)) {
            Check.due("promise(" + r + ", 1)", x.promise(r, 1), false);
        }
        for (int r = 0; r < 8; r++) {
            Check.due("look(" + r + ", 3)", x.look(r, 3), 0);
            Check.due("promise(" + r + ", " + (r + 1) + ")", x.promise(r, r + 1), true);
        }
        for (int r = 0; r < 8; r++) {
            Check.due("look(" + r + ", 3): each has its own", x.look(r, 3), r + 1);
        }
    }

    private static void promiseAtFirst() {
        Check.sentence(13, "A PROMISE of a ROUTINE is a set of KINDS (none at first).");
        WaysOut x = Check.told("?{!A}{!F}");
        Check.due("broken(0)", x.broken(0), 33);
        Check.due("promise(0, 63)", x.promise(0, 63), true);
        Check.due("broken(0)", x.broken(0), 0);
        Check.due("promise(0, 0)", x.promise(0, 0), true);
        Check.due("broken(0) with the empty set again", x.broken(0), 33);
    }

    private static void brokenOfNone() {
        Check.sentence(13, "that are of none of them");
        WaysOut x = Check.told("?{!A}{?{!B}{?{!C}{?{!D}{?{!E}{!F}}}}}");
        for (int kinds = 0; kinds < 64; kinds++) {
            x.promise(0, kinds);
            Check.due("broken(0) by " + kinds, x.broken(0), 63 - kinds);
        }
    }

    private static void brokenAbove() {
        Check.sentence(13, "A KIND IS of another one if it is that or UNDER it.");
        WaysOut x = chain();
        Check.tell(x, 0, "?{!C}{!F}");
        int[] want = {0, 0, 0, 4, 4, 4};
        for (int k = 0; k < 6; k++) {
            x.promise(0, 1 << k);
            Check.due("broken(0) by the PROMISE of " + k + " alone", x.broken(0), want[k]);
        }
    }

    private static void brokenNotTaken() {
        Check.sentence(13, "BROKEN are KINDS by which it can be left, begun with nothing open");
        WaysOut x = Check.told("T{!A}A{!B}", "@a!C", "@c!D", ".!E");
        Check.due("broken(0): what is taken doesn't leave", x.broken(0), 2);
        Check.due("broken(1): what is called does", x.broken(1), 2);
        Check.due("broken(2): never left", x.broken(2), 0);
        Check.due("broken(3): only left normally", x.broken(3), 0);
        Check.due("broken(4): an empty TEXT", x.broken(4), 0);
    }

    private static void brokenNoSuchOne() {
        Check.sentence(13, "NONE: no such one");
        WaysOut x = Check.told("!A");
        for (int r : Check.noneOf(7)) {
            Check.due("broken(" + r + ")", x.broken(r), NONE);
        }
        Check.due("broken(7)", x.broken(7), 0);
    }

    private static void idleOfTheSet() {
        Check.sentence(14, "IDLE those of the set of which none by which it can be left IS");
        WaysOut x = Check.told("?{!A}{!F}");
        for (int kinds = 0; kinds < 64; kinds++) {
            x.promise(0, kinds);
            Check.due("idle(0) of " + kinds, x.idle(0), kinds & 30);
        }
    }

    private static void idleBelow() {
        Check.sentence(14, "A KIND IS of another one if it is that or UNDER it.");
        WaysOut x = chain();
        x.promise(0, 63);
        for (int k = 0; k < 6; k++) {
            Check.tell(x, 0, "!" + (char) ('A' + k));
            Check.due("idle(0) of all, left by " + k, x.idle(0), 63 & -2 << k);
        }
    }

    private static void idleNeverLeft() {
        Check.sentence(14, "by which it can be left");
        WaysOut x = Check.told("@a!A", "T{!B}B{}", "");
        for (int r = 0; r < 3; r++) {
            Check.due("idle(" + r + ") without a PROMISE", x.idle(r), 0);
            x.promise(r, 63);
            Check.due("idle(" + r + ") of all", x.idle(r), 63);
        }
    }

    private static void idleNoSuchOne() {
        Check.sentence(14, "NONE: no such one");
        WaysOut x = new WaysOut();
        x.promise(0, 63);
        for (int r : Check.noneOf(7)) {
            Check.due("idle(" + r + ")", x.idle(r), NONE);
        }
        Check.due("idle(7)", x.idle(7), 0);
    }
}

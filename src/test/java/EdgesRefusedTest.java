import java.util.Arrays;

/** Promises 2 to 17: what a refused call changes; then the last calls of an object, and objects beside one another. */
public final class EdgesRefusedTest {
    private static final String REFUSED
            = "A call that is refused (NONE, false) changes nothing but the tape, where it is told.";
    private static final int DOTS = 0x2e2e2e2e;
    private static final int LEAST = Integer.MIN_VALUE;
    private static final int MOST = Integer.MAX_VALUE;

    public static void main(String[] args) {
        refusedFeed();
        refusedTexts();
        faultyTexts();
        refusedUnder();
        refusedPromises();
        refusedSteps();
        refusedLeaves();
        refusedEnds();
        refusedDue();
        refusedTakers();
        refusedTaker();
        refusedLost();
        refusedBroken();
        refusedIdle();
        refusedLook();
        refusedIs();
        refusedFault();
        lastCalls();
        moreCalls();
        ownMemory();
        Check.finish("EdgesRefusedTest");
    }

    /** An object with something in all that can be told to it: a tape, TEXTS, KINDS, PROMISES, a FAULT. */
    private static WaysOut full() {
        WaysOut x = Check.told("T{@b}A{^}C{}Z{@d}", "?{!A}{?{!B}{+0!C}}", "*{@a+1}", "?{}{!E}", "@e", "T{!F}F{}", "", ".");
        x.under(1, 0);
        x.under(2, 1);
        x.promise(0, 5);
        x.promise(1, 63);
        Check.tell(x, 2, "..}");
        for (int n = 0; n < 4; n++) {
            x.feed(DOTS, DOTS, DOTS, DOTS, DOTS);
        }
        Check.due("leaves(0, 0), so that something has been worked out before", x.leaves(0, 0), 23);
        Check.due("lost(0), likewise", x.lost(0), 7);
        return x;
    }

    /** Each call on a full object, refused, and none on another: then both answer the same, of the tape, too. */
    private static void refused(int promise, int[][] calls) {
        for (int[] a : calls) {
            String call = "the call with " + Arrays.toString(a);
            for (int r = 0; r < 8; r++) {
                WaysOut x = full();
                Check.due(call + " is refused", Answers.isRefusal(promise, Answers.call(x, promise, a)), true);
                dueSame(call, x, full(), r);
            }
        }
    }

    private static void dueSame(String call, WaysOut x, WaysOut y, int r) {
        Check.due(call + " changes nothing of " + r, Arrays.equals(Answers.ask(x, r), Answers.ask(y, r)), true);
        for (int i = 0; i < 36; i++) {
            Check.due(call + ", then is(" + i / 6 + ", " + i % 6 + ")", x.is(i / 6, i % 6), y.is(i / 6, i % 6));
        }
        for (int what = 0; what < 3; what++) {
            Check.due(call + ", then fault(" + what + ")", x.fault(what), y.fault(what));
        }
        Check.due(call + ", then text(0, 60)", x.text(0, 60), y.text(0, 60));
        Check.dueText(x, 0, Check.textOf(y, 0));
    }

    private static void refusedFeed() {
        Check.sentence(2, REFUSED);
        refused(2, new int[][] {{0, 0, 0, 0, 0}, {-1, LEAST, MOST, 1, 2}});
    }

    private static void refusedTexts() {
        Check.sentence(3, REFUSED);
        refused(3, new int[][] {{8, 1}, {-1, 0}, {LEAST, 1}, {MOST, 1}, {0, 61}, {0, 81}, {0, -1}, {0, LEAST}, {0, MOST}});
    }

    /** The one call where it is told: a FAULT empties the tape and is told by fault(), all else stays. */
    private static void faultyTexts() {
        Check.sentence(3, "where it is told");
        String[] faulty = {"}", "@e@f^", "T{}" + "A{}".repeat(7), "@h" + "*{".repeat(9)};
        for (String no : faulty) {
            for (int r = 0; r < 8; r++) {
                WaysOut x = full();
                x.text(7, 1);
                Check.due("text(0, ..) of " + no, Check.tell(x, 0, no) >= 100, true);
                Check.due("fault(2)", x.fault(2), 0);
                WaysOut y = full();
                y.text(7, 1);
                Check.due("all of " + r + " stays", Arrays.equals(Answers.ask(x, r), Answers.ask(y, r)), true);
            }
        }
    }

    private static void refusedUnder() {
        Check.sentence(4, REFUSED);
        refused(4, new int[][] {{0, 0}, {5, 5}, {0, 1}, {0, 2}, {1, 2}});
        refused(4, new int[][] {{6, 0}, {-1, 0}, {-1, -1}, {3, 6}, {3, -2}, {2, MOST}, {LEAST, -1}});
    }

    private static void refusedPromises() {
        Check.sentence(5, REFUSED);
        refused(5, new int[][] {{0, 64}, {0, -1}, {0, LEAST}, {0, MOST}, {1, 65}, {8, 1}, {-1, 1}, {LEAST, 0}, {MOST, 0}});
    }

    private static void refusedSteps() {
        Check.sentence(6, REFUSED);
        refused(6, new int[][] {{8, 0, 0, 0}, {0, 4, 0, 0}, {0, 0, 7, 0}, {0, 0, 0, 4}});
        refused(6, new int[][] {{-1, -1, -1, -1}, {LEAST, MOST, LEAST, MOST}, {4, 0, 0, 0}});
    }

    private static void refusedLeaves() {
        Check.sentence(7, REFUSED);
        refused(7, new int[][] {{8, 0}, {-1, 0}, {0, 4}, {0, -1}, {LEAST, MOST}});
    }

    private static void refusedEnds() {
        Check.sentence(8, REFUSED);
        refused(8, new int[][] {{8, 0}, {-1, 0}, {0, 4}, {0, -1}, {LEAST, MOST}});
    }

    private static void refusedDue() {
        Check.sentence(9, REFUSED);
        refused(9, new int[][] {{8, 0}, {-1, 0}, {0, -1}, {0, 21}, {4, 0}, {MOST, LEAST}});
    }

    private static void refusedTakers() {
        Check.sentence(10, REFUSED);
        refused(10, new int[][] {{8}, {-1}, {LEAST}, {MOST}});
    }

    private static void refusedTaker() {
        Check.sentence(11, REFUSED);
        refused(11, new int[][] {{8, 0, 0}, {-1, 0, 2}, {0, 2, 2}, {0, -1, 2}});
        refused(11, new int[][] {{0, 0, 5}, {0, 0, -1}, {6, 0, 2}, {0, MOST, LEAST}});
    }

    private static void refusedLost() {
        Check.sentence(12, REFUSED);
        refused(12, new int[][] {{8}, {-1}, {LEAST}, {MOST}});
    }

    private static void refusedBroken() {
        Check.sentence(13, REFUSED);
        refused(13, new int[][] {{8}, {-1}, {LEAST}, {MOST}});
    }

    private static void refusedIdle() {
        Check.sentence(14, REFUSED);
        refused(14, new int[][] {{8}, {-1}, {LEAST}, {MOST}});
    }

    private static void refusedLook() {
        Check.sentence(15, REFUSED);
        refused(15, new int[][] {{8, 0}, {-1, 100}, {0, 4}, {0, 99}, {0, 160}, {0, -1}, {0, LEAST}, {0, MOST}});
    }

    private static void refusedIs() {
        Check.sentence(16, REFUSED);
        refused(16, new int[][] {{6, 0}, {0, 6}, {-1, 0}, {0, -1}, {LEAST, MOST}});
    }

    private static void refusedFault() {
        Check.sentence(17, REFUSED);
        refused(17, new int[][] {{3}, {-1}, {LEAST}, {MOST}});
    }

    /** Each round takes eight calls, 63 rounds 504; the last eight calls are held like the first ones. */
    private static void lastCalls() {
        Check.sentence(6, "An object is used for at most 512 calls after it has been made");
        WaysOut x = new WaysOut();
        for (int n = 0; n < 64; n++) {
            int k = n % 6;
            int row = 0x547b2141 + k;
            Check.due("round " + n + ": feed", x.feed(row, 0x7d417b2b, 0x307d0000, 0, 0), 20);
            Check.due("round " + n + ": text", x.text(n % 8, 10), 0);
            Check.due("round " + n + ": steps", x.steps(n % 8, 0, k == 0 ? 0 : 1 + k, k == 0 ? 1 : 0), k == 0 ? 2 : 1);
            Check.due("round " + n + ": taker", x.taker(n % 8, 0, 2), k == 0 ? 1 : 0);
            Check.due("round " + n + ": under", x.under(k == 0 ? 1 : k, 0), true);
            Check.due("round " + n + ": leaves", x.leaves(n % 8, 0), 0);
            Check.due("round " + n + ": promise", x.promise(n % 8, n), true);
            Check.due("round " + n + ": under none", x.under(k == 0 ? 1 : k, WaysOut.NONE), true);
        }
    }

    /** What they answer is free; LANGUAGE.md wants that they throw nothing and end. */
    private static void moreCalls() {
        Check.sentence(17, "what later calls answer is free");
        WaysOut x = new WaysOut();
        int[] odd = {LEAST, -1, 0, 1, 7, 60, MOST};
        int answered = 0;
        for (int n = 0; n < 5000; n++) {
            int[] a = {odd[n % 7], odd[n / 7 % 7], odd[n / 49 % 7], odd[n % 5], odd[n % 3]};
            Answers.call(x, 2 + n % 16, a);
            answered++;
        }
        Check.due("calls that ended", answered, 5000);
    }

    private static void ownMemory() {
        Check.sentence(1, "All memory is the auditor's own.");
        WaysOut x = full();
        WaysOut fresh = new WaysOut();
        for (int r = 0; r < 8; r++) {
            Check.due("look(" + r + ", 0)", fresh.look(r, 0), 0);
            Check.due("look(" + r + ", 3)", fresh.look(r, 3), 0);
            Check.due("leaves(" + r + ", 0)", fresh.leaves(r, 0), 0);
        }
        Check.due("is(1, 0)", fresh.is(1, 0), 0);
        Check.due("fault(0)", fresh.fault(0), 0);
        Check.due("fault(2)", fresh.fault(2), 0);
        Check.due("feed", fresh.feed(0, 0, 0, 0, 0), 20);
        Check.tell(fresh, 1, "");
        fresh.under(1, 3);
        fresh.promise(0, 9);
        dueSame("calls on another object", x, full(), 0);
    }
}

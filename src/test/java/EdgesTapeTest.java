/** Promises 1, 2, 3 and 17: a test for each sentence on a new object, the tape, what text() refuses, what fault() tells. */
public final class EdgesTapeTest {
    private static final int NONE = WaysOut.NONE;
    private static final int DOTS = 0x2e2e2e2e;

    public static void main(String[] args) {
        newTexts();
        newKinds();
        newPromises();
        constant();
        twentyBytes();
        highestFirst();
        behindTheTape();
        howMany();
        fullTape();
        firstBytes();
        noBytes();
        allBytes();
        emptyThen();
        emptyAfterFault();
        numberAndPlace();
        textStays();
        nothingStays();
        noSuchRoutine();
        aboveSixty();
        notSoMany();
        belowZero();
        latestText();
        numberOfNone();
        bytesOfTape();
        otherFaults();
        Check.finish("EdgesTapeTest");
    }

    /** A new object on whose tape stand so many returns. */
    private static WaysOut fed(int bytes) {
        WaysOut x = new WaysOut();
        for (int n = 20; n <= bytes; n += 20) {
            Check.due("feed to " + n, x.feed(DOTS, DOTS, DOTS, DOTS, DOTS), n);
        }
        return x;
    }

    private static void newTexts() {
        Check.sentence(1, "Empty TEXTS");
        WaysOut x = new WaysOut();
        for (int r = 0; r < 8; r++) {
            Check.due("look(" + r + ", 0)", x.look(r, 0), 0);
            Check.due("look(" + r + ", 100)", x.look(r, 100), NONE);
            Check.due("steps(" + r + ", 2, 0, 2)", x.steps(r, 2, 0, 2), 0);
            Check.due("takers(" + r + ")", x.takers(r), 0);
        }
    }

    private static void newKinds() {
        Check.sentence(1, "nothing UNDER another");
        WaysOut x = new WaysOut();
        for (int k = 0; k < 6; k++) {
            for (int of = 0; of < 6; of++) {
                Check.due("is(" + k + ", " + of + ")", x.is(k, of), k == of ? 1 : 0);
            }
        }
    }

    private static void newPromises() {
        Check.sentence(1, "(none at first)");
        WaysOut x = new WaysOut();
        for (int r = 0; r < 8; r++) {
            Check.due("look(" + r + ", 3)", x.look(r, 3), 0);
        }
    }

    private static void constant() {
        Check.sentence(1, "`NONE = -1`: There is none.");
        Check.due("NONE", WaysOut.NONE, -1);
        Check.due("due(0, 0) of a new object", new WaysOut().due(0, 0), -1);
    }

    private static void twentyBytes() {
        Check.sentence(2, "Twenty bytes come behind the tape");
        WaysOut x = fed(20);
        Check.due("text(0, 21)", x.text(0, 21), NONE);
        Check.due("text(0, 20)", x.text(0, 20), 0);
        Check.due("look(0, 0)", x.look(0, 0), 20);
    }

    private static void highestFirst() {
        Check.sentence(2, "the highest of each int first");
        WaysOut x = new WaysOut();
        Check.due("feed", x.feed(0x2b302d31, 0x21412142, 0x2b312d30, 0x40614068, 0x21462e5e), 20);
        Check.due("text(0, 19)", x.text(0, 19), 0);
        Check.dueText(x, 0, "+0-1!A!B+1-0@a@h!F.");
        int[] high = {0xae2e2e2e, 0x2eae2e2e, 0x2e2eae2e, 0x2e2e2eae};
        for (int i = 0; i < 4; i++) {
            x.feed(DOTS, DOTS, DOTS, DOTS, high[i]);
            Check.due("a byte above 127 as byte " + (16 + i), x.text(0, 20), 116 + i);
        }
        for (int word : new int[] {Integer.MIN_VALUE, Integer.MAX_VALUE, -1, 0}) {
            Check.due("feed of " + word, x.feed(word, word, word, word, word), 20);
            Check.due("text(0, 20)", x.text(0, 20), 100);
        }
    }

    private static void behindTheTape() {
        Check.sentence(2, "come behind the tape");
        WaysOut x = new WaysOut();
        String text = "!A!B!C!D!E!F@a@b@c@d+0+1-0-1..........!A!B!C!D!E!F@a@b@c@d+0";
        Check.due("feed of three rows", Check.feed(x, text), 60);
        Check.due("text(0, 60)", x.text(0, 60), 0);
        Check.dueText(x, 0, text);
    }

    private static void howMany() {
        Check.sentence(2, "how many it has");
        WaysOut x = fed(80);
        Check.due("text(0, 1)", x.text(0, 1), 0);
        Check.due("feed behind an empty tape", x.feed(0, 0, 0, 0, 0), 20);
    }

    private static void fullTape() {
        Check.sentence(2, "NONE if that would be more than 80");
        WaysOut x = fed(80);
        for (int n = 0; n < 3; n++) {
            Check.due("feed behind 80", x.feed(0, 0, 0, 0, 0), NONE);
            Check.due("fault(2)", x.fault(2), 80);
        }
        Check.due("text(0, 60) of what stood there before", x.text(0, 60), 0);
        Check.dueText(x, 0, ".".repeat(60));
    }

    private static void firstBytes() {
        Check.sentence(3, "The first n bytes of the tape");
        WaysOut x = new WaysOut();
        Check.feed(x, "!A^");
        Check.due("text(7, 2): what stands behind is not read", x.text(7, 2), 0);
        Check.dueText(x, 7, "!A");
        Check.feed(x, "!A^");
        Check.due("text(7, 3)", x.text(7, 3), 102);
    }

    private static void noBytes() {
        Check.sentence(3, "(none, too)");
        WaysOut x = Check.told("!A");
        Check.feed(x, "!B");
        Check.due("text(0, 0) of a tape", x.text(0, 0), 0);
        Check.dueText(x, 0, "");
        Check.due("fault(2)", x.fault(2), 0);
        Check.due("ends(0, 0)", x.ends(0, 0), 1);
        Check.due("text(1, 0) of an empty tape", x.text(1, 0), 0);
    }

    private static void allBytes() {
        Check.sentence(3, "each with a TEXT of 60 bytes at most");
        for (int r = 0; r < 8; r++) {
            WaysOut x = fed(60);
            Check.due("text(" + r + ", 60)", x.text(r, 60), 0);
            Check.due("look(" + r + ", 0)", x.look(r, 0), 60);
            Check.due("look(" + r + ", 159)", x.look(r, 159), '.');
        }
        WaysOut x = fed(80);
        Check.due("text(0, 61)", x.text(0, 61), NONE);
        Check.due("look(0, 0)", x.look(0, 0), 0);
    }

    private static void emptyThen() {
        Check.sentence(3, "(empty then)");
        for (int n : new int[] {0, 1, 20, 59, 60}) {
            WaysOut x = fed(80);
            Check.due("text(0, " + n + ")", x.text(0, n), 0);
            Check.due("fault(2)", x.fault(2), 0);
            Check.due("text(0, 1)", x.text(0, 1), NONE);
        }
    }

    private static void emptyAfterFault() {
        Check.sentence(3, "changes nothing but the tape, where it is told");
        WaysOut x = new WaysOut();
        Check.feed(x, "}" + ".".repeat(79));
        Check.due("text(0, 1)", x.text(0, 1), 100);
        Check.due("fault(2)", x.fault(2), 0);
        Check.due("text(0, 1)", x.text(0, 1), NONE);
    }

    private static void numberAndPlace() {
        Check.sentence(3, "100 times its number and its place");
        WaysOut x = new WaysOut();
        Check.due("1 at the first byte", Check.tell(x, 0, "}"), 100);
        Check.due("1 at the last byte", Check.tell(x, 0, ".".repeat(59) + "}"), 159);
        Check.due("1 at the end of 60 bytes", Check.tell(x, 0, ".".repeat(59) + "+"), 160);
        Check.due("2 as early as can be", Check.tell(x, 0, "*{".repeat(9)), 217);
        Check.due("2 at the last byte", Check.tell(x, 0, ".".repeat(42) + "*{".repeat(9)), 259);
        Check.due("3 as early as can be", Check.tell(x, 0, "T{}" + "A{}".repeat(7)), 321);
        Check.due("3 at the last byte", Check.tell(x, 0, ".".repeat(38) + "T{}" + "A{}".repeat(6) + "A"), 359);
    }

    private static void textStays() {
        Check.sentence(3, "(the TEXT stays)");
        WaysOut x = Check.told("T{!A@b}A{}", "+0");
        for (String no : new String[] {"}", "@c^", "T{}", "@c" + "*{".repeat(9), "@cT{}" + "B{}".repeat(7)}) {
            Check.due("text of " + no, Check.tell(x, 0, no) > 0, true);
            Check.dueText(x, 0, "T{!A@b}A{}");
            Check.due("look(0, 1)", x.look(0, 1), 2);
            Check.due("takers(0)", x.takers(0), 1);
            Check.due("taker(0, 0, 2)", x.taker(0, 0, 2), 1);
            Check.due("steps(0, 0, 0, 0)", x.steps(0, 0, 0, 0), 1);
        }
    }

    /** Each TEXT comes behind one that was longer, or had a FAULT, and has nothing of it. */
    private static void nothingStays() {
        Check.sentence(3, "are the TEXT of ROUTINE r: 0; a FAULT");
        WaysOut x = new WaysOut();
        for (int n = 0; n < 3; n++) {
            Check.due("a long TEXT", Check.tell(x, 0, "@c@dT{!B}B{?{^}{}}C{}Z{?{}{.}}"), 0);
            Check.due("lost(0)", x.lost(0), 2);
            Check.due("a FAULT", Check.tell(x, 0, "@e@fT{!B}B{^}D{}*{^"), 118);
        }
        for (int n = 0; n < 3; n++) {
            Check.due("a short TEXT", Check.tell(x, 0, "*{?{+0}{}}T{!C}Z{}"), 0);
            Check.due("look(0, 0)", x.look(0, 0), 18);
            Check.due("look(0, 1)", x.look(0, 1), 0);
            Check.due("takers(0)", x.takers(0), 0);
            Check.due("lost(0)", x.lost(0), 0);
            Ways.due(x, 0, 0, "3:0=1 3:1=2");
        }
    }

    private static void noSuchRoutine() {
        Check.sentence(3, "NONE: no such one");
        WaysOut x = fed(20);
        for (int r : Check.noneOf(7)) {
            Check.due("text(" + r + ", 1)", x.text(r, 1), NONE);
            Check.due("text(" + r + ", 0)", x.text(r, 0), NONE);
            Check.due("fault(2)", x.fault(2), 20);
        }
        Check.due("text(7, 20)", x.text(7, 20), 0);
        Check.due("text(0, 0)", x.text(0, 0), 0);
    }

    private static void aboveSixty() {
        Check.sentence(3, "n above 60");
        WaysOut x = fed(80);
        for (int n : new int[] {61, 80, 81, Integer.MAX_VALUE}) {
            Check.due("text(0, " + n + ")", x.text(0, n), NONE);
            Check.due("fault(2)", x.fault(2), 80);
        }
        Check.due("text(0, 60)", x.text(0, 60), 0);
    }

    private static void notSoMany() {
        Check.sentence(3, "it has not so many (the tape stays)");
        for (int bytes = 0; bytes <= 40; bytes += 20) {
            WaysOut x = fed(bytes);
            Check.due("text(0, " + (bytes + 1) + ")", x.text(0, bytes + 1), NONE);
            Check.due("text(0, 60)", x.text(0, 60), NONE);
            Check.due("fault(2)", x.fault(2), bytes);
            Check.due("text(0, " + bytes + ")", x.text(0, bytes), 0);
            Check.dueText(x, 0, ".".repeat(bytes));
        }
    }

    /** The document names no n below 0; no tape has so few bytes, so it is refused as one that has not so many. */
    private static void belowZero() {
        Check.sentence(3, "it has not so many");
        WaysOut x = fed(20);
        for (int n : new int[] {-1, -20, Integer.MIN_VALUE}) {
            Check.due("text(0, " + n + ")", x.text(0, n), NONE);
            Check.due("fault(2)", x.fault(2), 20);
        }
    }

    private static void latestText() {
        Check.sentence(17, "The FAULT of the latest text() that was not NONE");
        WaysOut x = new WaysOut();
        Check.due("text of 0", Check.tell(x, 0, ".}"), 101);
        Check.due("text of 7", Check.tell(x, 7, "*{".repeat(9)), 217);
        Check.due("fault(0)", x.fault(0), 2);
        Check.due("fault(1)", x.fault(1), 17);
        x.feed(DOTS, DOTS, DOTS, DOTS, DOTS);
        int[][] refused = {{8, 1}, {-1, 1}, {0, 21}, {0, 61}};
        for (int[] call : refused) {
            Check.due("text(" + call[0] + ", " + call[1] + ")", x.text(call[0], call[1]), NONE);
            Check.due("fault(0)", x.fault(0), 2);
            Check.due("fault(1)", x.fault(1), 17);
        }
        Check.due("text(3, 20)", x.text(3, 20), 0);
        Check.due("fault(0)", x.fault(0), 0);
        Check.due("fault(1)", x.fault(1), NONE);
        Check.due("text(3, 21)", x.text(3, 21), NONE);
        Check.due("fault(0)", x.fault(0), 0);
    }

    private static void numberOfNone() {
        Check.sentence(17, "what 0 its number (0: none), 1 its place (NONE)");
        WaysOut x = new WaysOut();
        Check.due("fault(0) before any text()", x.fault(0), 0);
        Check.due("fault(1) before any text()", x.fault(1), NONE);
        Check.due("a FAULT at place 0", Check.tell(x, 0, "}"), 100);
        Check.due("fault(0)", x.fault(0), 1);
        Check.due("fault(1)", x.fault(1), 0);
        Check.due("a seventh TAKER", Check.tell(x, 0, "T{}" + "A{}".repeat(7)), 321);
        Check.due("fault(0)", x.fault(0), 3);
        Check.due("fault(1)", x.fault(1), 21);
        Check.due("an empty TEXT", x.text(0, 0), 0);
        Check.due("fault(0)", x.fault(0), 0);
        Check.due("fault(1)", x.fault(1), NONE);
    }

    private static void bytesOfTape() {
        Check.sentence(17, "2 bytes of the tape");
        WaysOut x = new WaysOut();
        for (int n = 0; n <= 80; n += 20) {
            Check.due("fault(2) of " + n, x.fault(2), n);
            Check.due("feed", x.feed(0, 0, 0, 0, 0), n < 80 ? n + 20 : NONE);
        }
        Check.due("fault(2) of a full tape", x.fault(2), 80);
        Check.due("text(0, 1)", x.text(0, 1), 100);
        Check.due("fault(2)", x.fault(2), 0);
    }

    private static void otherFaults() {
        Check.sentence(17, "NONE for others");
        WaysOut x = fed(20);
        x.text(0, 20);
        for (int what : Check.noneOf(2)) {
            Check.due("fault(" + what + ")", x.fault(what), NONE);
        }
    }
}

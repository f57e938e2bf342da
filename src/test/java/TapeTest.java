/** Promises 2, 3 and 17: the tape, TEXTS made of it, and what is told of the latest one. */
public final class TapeTest {
    public static void main(String[] args) {
        bytesInOrder();
        tapeIsFull();
        refusedTexts();
        faultLeavesText();
        onlyTheFirstBytes();
        Check.finish("TapeTest");
    }

    private static void bytesInOrder() {
        WaysOut x = new WaysOut();
        String text = "+0-0+1-1@a@b@c@d@e@f@g@h.*{}?{}{}T{!A}B{^}C{}Z{!F}!C!D!E.+0";
        Check.due("length", text.length(), 59);
        Check.due("feed", Check.feed(x, text), 60);
        Check.due("fault(2)", x.fault(2), 60);
        Check.due("text(3, 59)", x.text(3, 59), 0);
        Check.due("fault(2)", x.fault(2), 0);
        Check.due("look(3, 0)", x.look(3, 0), 59);
        for (int i = 0; i < 59; i++) {
            Check.due("look(3, 100 + " + i + ")", x.look(3, 100 + i), text.charAt(i));
        }
        Check.due("look(3, 159)", x.look(3, 159), WaysOut.NONE);
        String sixty = "+0".repeat(30);
        Check.due("sixty bytes", Check.tell(x, 7, sixty), 0);
        Check.due("look(7, 159)", x.look(7, 159), '0');
        Check.due("look(7, 160)", x.look(7, 160), WaysOut.NONE);
        Check.due("all four of its bytes", x.feed(0x2e2b302d, 0x30, 0, 0, 0x2e), 20);
        Check.due("zeros can't stand", x.text(0, 20), 104);
        Check.due("bytes above 127", x.feed(0xaeab302d, -1, -1, -1, -1), 20);
        Check.due("bytes above 127 can't stand", x.text(0, 1), 100);
    }

    private static void tapeIsFull() {
        WaysOut x = new WaysOut();
        int dots = 0x2e2e2e2e;
        for (int n = 20; n <= 80; n += 20) {
            Check.due("feed to " + n, x.feed(dots, dots, dots, dots, dots), n);
        }
        Check.due("feed above 80", x.feed(dots, dots, dots, dots, dots), WaysOut.NONE);
        Check.due("fault(2)", x.fault(2), 80);
        Check.due("text(0, 80)", x.text(0, 80), WaysOut.NONE);
        Check.due("text(0, 61)", x.text(0, 61), WaysOut.NONE);
        Check.due("fault(2)", x.fault(2), 80);
        Check.due("text(0, 60)", x.text(0, 60), 0);
        Check.due("fault(2): empty, not twenty", x.fault(2), 0);
        Check.due("feed", x.feed(dots, dots, dots, dots, dots), 20);
    }

    private static void refusedTexts() {
        WaysOut x = Check.told("!A");
        Check.feed(x, "{.....");
        Check.due("a fault", x.text(0, 1), 100);
        Check.feed(x, "..................");
        int[][] wrong = {{8, 3}, {-1, 3}, {0, -1}, {0, 21}, {0, 61}, {Integer.MIN_VALUE, 0}, {0, Integer.MIN_VALUE},
            {0, Integer.MAX_VALUE}, {Integer.MAX_VALUE, 1}};
        for (int[] w : wrong) {
            Check.due("text(" + w[0] + ", " + w[1] + ")", x.text(w[0], w[1]), WaysOut.NONE);
            Check.due("the tape stays", x.fault(2), 20);
            Check.due("the fault stays", x.fault(0), 1);
            Check.due("its place stays", x.fault(1), 0);
            Check.due("the TEXT stays", x.look(0, 0), 2);
        }
        for (int what : new int[] {-1, 3, 4, Integer.MIN_VALUE, Integer.MAX_VALUE}) {
            Check.due("fault(" + what + ")", x.fault(what), WaysOut.NONE);
        }
        Check.due("text(0, 18)", x.text(0, 18), 0);
        Check.due("fault(0)", x.fault(0), 0);
        Check.due("fault(1)", x.fault(1), WaysOut.NONE);
    }

    private static void faultLeavesText() {
        WaysOut x = Check.told("T{!A}A{}B{.}", "@a");
        Check.due("steps(1, 0, 0, 0)", x.steps(1, 0, 0, 0), 2);
        Check.due("a fault", Check.tell(x, 0, "@b@c*{+0T{}A{!BZ"), 115);
        Check.due("fault(0)", x.fault(0), 1);
        Check.due("fault(1)", x.fault(1), 15);
        Check.due("fault(2)", x.fault(2), 0);
        Check.due("look(0, 0)", x.look(0, 0), 12);
        Check.due("look(0, 1)", x.look(0, 1), 0);
        Check.due("look(0, 101)", x.look(0, 101), '{');
        Check.due("takers(0)", x.takers(0), 2);
        Check.due("taker(0, 1, 1)", x.taker(0, 1, 1), 8);
        Check.due("steps(1, 0, 0, 0)", x.steps(1, 0, 0, 0), 2);
        Check.due("another", Check.tell(x, 0, "*{*{*{*{*{*{*{*{*{"), 217);
        Check.due("fault(0)", x.fault(0), 2);
        Check.due("fault(1)", x.fault(1), 17);
        Check.due("a third", Check.tell(x, 5, "T{}A{}A{}A{}A{}A{}A{}A{}"), 321);
        Check.due("fault(0)", x.fault(0), 3);
        Check.due("fault(1)", x.fault(1), 21);
        Check.due("an empty TEXT", x.text(0, 0), 0);
        Check.due("fault(0)", x.fault(0), 0);
        Check.due("look(0, 0)", x.look(0, 0), 0);
        Check.due("takers(0)", x.takers(0), 0);
        Check.due("steps(1, 0, 0, 0)", x.steps(1, 0, 0, 0), 1);
    }

    private static void onlyTheFirstBytes() {
        WaysOut x = new WaysOut();
        Check.feed(x, "!A!B");
        Check.due("text(0, 2)", x.text(0, 2), 0);
        Check.due("look(0, 0)", x.look(0, 0), 2);
        Check.due("leaves(0, 0)", x.leaves(0, 0), 1);
        Check.due("the rest is gone", x.fault(2), 0);
        Check.feed(x, "!A!B");
        Check.due("text(0, 0)", x.text(0, 0), 0);
        Check.due("the tape is empty then, too", x.fault(2), 0);
    }
}

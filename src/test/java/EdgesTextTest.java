/** Promise 3: a test for each sentence of the Terms that says what can stand in a TEXT, and where its FAULT is. */
public final class EdgesTextTest {
    public static void main(String[] args) {
        raises();
        raisesAgain();
        calls();
        opens();
        shuts();
        returns();
        chooses();
        repeats();
        takers();
        ending();
        takerOrEnding();
        noBlanks();
        emptyBlocks();
        braces();
        openBlocks();
        fromTheLeft();
        cantStand();
        theEnd();
        ninthBlock();
        seventhTaker();
        Check.finish("EdgesTextTest");
    }

    private static void text(String text, int want) {
        Check.due("text " + text, Check.tell(new WaysOut(), 0, text), want);
    }

    /** Pairs: a text, and what text() is due to answer. */
    private static void texts(Object... pairs) {
        for (int i = 0; i + 1 < pairs.length; i += 2) {
            text((String) pairs[i], (Integer) pairs[i + 1]);
        }
    }

    private static void raises() {
        Check.sentence(3, "! and a KIND: raises it");
        texts("!A", 0, "!B", 0, "!C", 0, "!D", 0, "!E", 0, "!F", 0, "!@", 101, "!G", 101, "!a", 101, "!", 101, "!!A", 101);
    }

    private static void raisesAgain() {
        Check.sentence(3, "not outside of all");
        texts("^", 100, "*{^}", 102, "?{}{^}", 104, "T{^}A{}", 102, "T{}Z{^}", 105, "T{}A{}Z{^}", 108, "T{}A{}^", 106);
        texts("T{}A{^}", 0, "T{}A{}B{^}", 0, "T{}A{*{^}}", 0, "T{}A{?{^}{^}}", 0, "T{}A{T{^}Z{^}}", 0);
        texts("T{}A{T{^}B{^}^}", 0, "T{}A{T{^}B{^}^}^", 115);
    }

    private static void calls() {
        Check.sentence(3, "@ and a ROUTINE: calls it");
        texts("@a", 0, "@b", 0, "@c", 0, "@d", 0, "@e", 0, "@f", 0, "@g", 0, "@h", 0, "@`", 101, "@i", 101, "@A", 101);
        texts("@", 101, "@0", 101);
    }

    private static void opens() {
        Check.sentence(3, "+ and a THING (0, 1): opens it");
        texts("+0", 0, "+1", 0, "+2", 101, "+/", 101, "+", 101, "++0", 101, "+\0", 101, "+\1", 101);
    }

    private static void shuts() {
        Check.sentence(3, "- and a THING: shuts it");
        texts("-0", 0, "-1", 0, "-2", 101, "-/", 101, "-", 101, "--0", 101, "-\0", 101, "-\1", 101);
    }

    private static void returns() {
        Check.sentence(3, ". returns.");
        texts(".", 0, "..", 0, ".!A", 0, "!A.", 0, ".0", 101);
    }

    private static void chooses() {
        Check.sentence(3, "? BLOCK BLOCK: the one or the other");
        texts("?{}{}", 0, "?", 101, "?{}", 103, "?{}.", 103, "?{}{}{}", 105, "?.", 101, "?!A", 101, "?{}{", 104, "?{", 102);
    }

    private static void repeats() {
        Check.sentence(3, "* BLOCK: none, one or several times");
        texts("*{}", 0, "*", 101, "*.", 101, "**{}", 101, "*{}{}", 103, "*{", 102, "*}", 101);
    }

    private static void takers() {
        Check.sentence(3, "TAKERS (none to six), each a KIND and a BLOCK");
        texts("T{}Z{}", 0, "T{}A{}", 0, "T{}A{}B{}C{}D{}E{}F{}", 0, "T{}F{}F{}F{}F{}F{}F{}Z{}", 0);
        texts("T{}A", 104, "T{}A.", 104, "T{}AB{}", 104, "T{}A{}B", 107, "T{}@{}", 103, "T{}G{}", 103, "T{}a{}", 103);
        texts("A{}", 100, "*{}A{}", 103, "?{}{}A{}", 105, "T{}A{}.B{}", 107);
    }

    private static void ending() {
        Check.sentence(3, "then, at times, Z and a BLOCK, its ENDING");
        texts("T{}A{}", 0, "T{}A{}Z{}", 0, "T{}A{}Z", 107, "T{}A{}Z.", 107, "T{}Z", 104, "T{}Z{}Z{}", 106, "T{}Z{}A{}", 106);
        texts("Z{}", 100, "*{}Z{}", 103, "T{}Y{}", 103, "T{}A{}Y{}", 106, "TZ{}", 101);
    }

    private static void takerOrEnding() {
        Check.sentence(3, "at least a TAKER or an ENDING");
        texts("T{}", 103, "T{}.", 103, "T{}T{}A{}", 103, "*{T{}}", 105, "T{}A{}", 0, "T{}Z{}", 0);
    }

    private static void noBlanks() {
        Check.sentence(3, "no blanks");
        texts(" ", 100, ". ", 101, "! A", 101, "* {}", 101, "*{ }", 102, "T{} A{}", 103, "T{}A {}", 104);
        texts(".\n", 101, ".\t.", 101, ".\0", 101);
    }

    private static void emptyBlocks() {
        Check.sentence(3, "BLOCK: { STATEMENTS }");
        texts("?{}{}*{}T{}A{}Z{}", 0, "*{..}", 0, "*{!A@a+0-0.?{}{}*{}T{}Z{}}", 0, "*(.)", 101, "*{.)", 103);
    }

    private static void braces() {
        Check.sentence(3, "what can't stand there");
        texts("{", 100, "{}", 100, "}", 100, ".}", 101, "*{}}", 103, "*{{}}", 102, "*{*{}", 105, "*{}}.", 103);
    }

    private static void openBlocks() {
        Check.sentence(3, "At most 8 BLOCKS are open in one another.");
        String shut = "}".repeat(8);
        texts("*{".repeat(8) + shut, 0, "*{".repeat(9) + shut + "}", 217);
        texts("*{".repeat(8) + "}*{}*{}" + shut.substring(1), 0, "*{".repeat(7) + "?{}{}T{}A{}Z{}" + shut.substring(1), 0);
        texts("T{}A{".repeat(8) + shut, 0, "T{}Z{".repeat(8) + shut, 0, "?{}{".repeat(8) + shut, 0);
        texts("*{}".repeat(20), 0);
    }

    private static void fromTheLeft() {
        Check.sentence(3, "FAULTS, the first from the left");
        String ninth = "*{".repeat(9);
        String seven = "T{}" + "A{}".repeat(7);
        texts("!G}", 101, "}!G", 100, "." + ninth + "!G", 218, "!G" + ninth, 101, "." + seven + "!G", 322);
        texts("T{" + seven + ninth, 323, ninth + seven, 217, "T{}A{}" + "}" + seven, 106, "*{^" + ninth, 102);
    }

    private static void cantStand() {
        Check.sentence(3, "1 what can't stand there");
        for (int c = 0; c < 256; c++) {
            String one = String.valueOf((char) c);
            if (!"!@+-.?*T".contains(one)) {
                text(one + ".", 100);
                text("*{" + one + "}", c == '}' ? 103 : 102);
            }
            if (c != '{') {
                text("*" + one + "}", 101);
                text("T{}A" + one + "}", 104);
            }
            text("T{}" + one + "{}", c >= 'A' && c <= 'F' || c == 'Z' ? 0 : 103);
        }
    }

    private static void theEnd() {
        Check.sentence(3, "(the end, too)");
        String whole = "?{!A}{+0}*{-1}T{@a}B{^}Z{.}";
        text(whole, 0);
        for (int n = 0; n < whole.length(); n++) {
            boolean betweenStatements = n == 0 || n == 9 || n == 14;
            boolean beforeEnding = n == 23;
            text(whole.substring(0, n), betweenStatements || beforeEnding ? 0 : 100 + n);
        }
    }

    private static void ninthBlock() {
        Check.sentence(3, "2 a ninth BLOCK, at its brace");
        String eight = "*{".repeat(8);
        texts(eight + "*{", 217, eight + "?{", 217, eight + "T{", 217, eight + "}*{*{", 220);
        texts("T{}A{".repeat(8) + "*{", 241, "T{}Z{".repeat(8) + "T{", 241, "?{}{".repeat(8) + "?{", 233);
        texts(eight + "*", 117, eight + "*.", 117, eight + "{", 116, eight + ".*{", 218);
    }

    private static void seventhTaker() {
        Check.sentence(3, "3 a seventh TAKER of one T, at its KIND");
        String six = "T{}" + "B{}".repeat(6);
        texts(six, 0, six + "B{}", 321, six + "F", 321, six + "A.", 321);
        texts(six + "G", 121, six + "Z{}", 0, six + "Z{}B{}", 124);
        texts(six + six, 0, six + "T{}" + "A{}".repeat(7), 342, "T{}A{" + six + "}" + "B{}".repeat(5), 0);
        texts("T{" + six + "}" + "A{}".repeat(7), 342, "T{}A{" + six + "}" + "B{}".repeat(6), 342);
    }
}

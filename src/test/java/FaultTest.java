import java.util.ArrayDeque;
import java.util.Random;

/** Promise 3: FAULTS and their places, by hand and against a second reader on random bytes. */
public final class FaultTest {
    private static final String BYTES = "ABCDEFGTZabhi012+-.!@^?*{}{}{}{} ~";
    private static final String[] PARTS = {"!A", "!F", "^", "@a", "@h", "+0", "-1", ".", "?{", "}{", "*{", "T{", "}A{",
        "}B{", "}Z{", "}", "}", "}A{}A{}A{}A{}A{}A{}", "A{}", "?{}{}", "*{}", "T{}F{}", "T{}Z{}"};

    public static void main(String[] args) {
        byHand();
        depth();
        sevenTakers();
        random();
        Check.finish("FaultTest");
    }

    private static void byHand() {
        String[] texts = {"", "0", "!", "101", "!A", "0", "!F", "0", "!G", "101", "!a", "101", "!0", "101", "@", "101",
            "@a", "0", "@h", "0", "@i", "101", "@A", "101", "+0", "0", "+1", "0", "+2", "101", "-0", "0", "-1", "0",
            "-2", "101", "-", "101", ".", "0", "..", "0", "^", "100", " ", "100", "! A", "101", "A", "100", "Z{}",
            "100", "{}", "100", "}", "100", ".}", "101", "?", "101", "?{}", "103", "?{}{}", "0", "?{}{", "104",
            "?{}!A", "103", "?{}{}{}", "105", "?.", "101", "*", "101", "*{", "102", "*{}", "0", "*{}{}", "103", "*{A}",
            "102", "T", "101", "T{", "102", "T{}", "103", "T{}.", "103", "T{}}", "103", "T{}A", "104", "T{}A{", "105",
            "T{}A{}", "0", "T{}A{}.", "0", "T{}A{}Z", "107", "T{}A{}Z{}", "0", "T{}Z{}", "0", "T{}Z{}A{}", "106",
            "T{}Z{}Z{}", "106", "T{}G{}", "103", "T{}A.", "104", "T{^}A{}", "102", "T{}A{^}", "0", "T{}A{^}^", "107",
            "T{}A{}Z{^}", "108", "T{}A{*{^}}", "0", "T{}A{T{^}Z{^}}", "0", "T{}A{T{}Z{}^}", "0", "T{}A{T{}B{^}^}", "0",
            "T{}A{}B{}C{}D{}E{}F{}Z{}", "0", "*{T{}A{}}", "0", "*{T{}}", "105", "*{T{}A{}", "108"};
        WaysOut x = new WaysOut();
        for (int i = 0; i < texts.length; i += 2) {
            Check.due("text " + texts[i], Check.tell(x, 0, texts[i]), Integer.parseInt(texts[i + 1]));
        }
    }

    private static void depth() {
        WaysOut x = new WaysOut();
        Check.due("eight in one another", Check.tell(x, 0, "*{".repeat(8) + "}".repeat(8)), 0);
        Check.due("and eight beside", Check.tell(x, 0, "*{".repeat(8) + "}*{}" + "}".repeat(7)), 0);
        Check.due("nine", Check.tell(x, 0, "*{".repeat(9) + "}".repeat(9)), 217);
        Check.due("a ninth of ?", Check.tell(x, 0, "?{".repeat(9)), 217);
        Check.due("a ninth of T", Check.tell(x, 0, "T{".repeat(9)), 217);
        Check.due("a ninth as TAKER", Check.tell(x, 0, "T{}A{".repeat(8) + "T{}A{"), 241);
        Check.due("eight TAKERS in one another", Check.tell(x, 0, "T{}A{".repeat(8) + "}".repeat(8)), 0);
        Check.due("a ninth as ENDING", Check.tell(x, 0, "T{}Z{".repeat(8) + "T{}Z{"), 241);
        Check.due("no brace where it would be", Check.tell(x, 0, "*{".repeat(8) + "*."), 117);
        Check.due("the end where it would be", Check.tell(x, 0, "*{".repeat(8) + "*"), 117);
    }

    private static void sevenTakers() {
        WaysOut x = new WaysOut();
        Check.due("six", Check.tell(x, 0, "T{}" + "A{}".repeat(6)), 0);
        Check.due("six and an ENDING", Check.tell(x, 0, "T{}" + "A{}".repeat(6) + "Z{}"), 0);
        Check.due("seven", Check.tell(x, 0, "T{}" + "A{}".repeat(7)), 321);
        Check.due("a seventh without a BLOCK", Check.tell(x, 0, "T{}" + "F{}".repeat(6) + "F"), 321);
        Check.due("G is no seventh", Check.tell(x, 0, "T{}" + "F{}".repeat(6) + "G"), 121);
        Check.due("six, then six of another T", Check.tell(x, 0, ("T{}" + "F{}".repeat(6)).repeat(2)), 0);
        Check.due("six within one of six", Check.tell(x, 0, "T{}A{T{}" + "B{}".repeat(6) + "}" + "C{}".repeat(5)), 0);
        Check.due("seven around six", Check.tell(x, 0, "T{}A{T{}" + "B{}".repeat(6) + "}" + "C{}".repeat(6)), 342);
    }

    private static void random() {
        Random random = new Random(5);
        int good = 0;
        for (int n = 0; n < 40_000; n++) {
            StringBuilder text = new StringBuilder();
            int length = random.nextInt(61);
            while (text.length() < length) {
                boolean odd = random.nextInt(40) == 0;
                text.append(odd ? "" + BYTES.charAt(random.nextInt(BYTES.length())) : PARTS[random.nextInt(PARTS.length)]);
            }
            close(text, random);
            if (text.length() > 60) {
                text.setLength(60);
            }
            WaysOut x = new WaysOut();
            int want = read(text.toString());
            Check.due("text " + text, Check.tell(x, 0, text.toString()), want);
            Check.due("look of " + text, x.look(0, 0), want == 0 ? text.length() : 0);
            good += want == 0 ? 1 : 0;
        }
        Check.due("some of them are good", good > 1000, true);
    }

    /** Shuts most often what is open, so that good texts come up. */
    private static void close(StringBuilder text, Random random) {
        int open = 0;
        for (int i = 0; i < text.length(); i++) {
            open += text.charAt(i) == '{' ? 1 : text.charAt(i) == '}' ? -1 : 0;
        }
        for (int i = 0; i < open && random.nextInt(20) != 0; i++) {
            text.append('}');
        }
    }

    /** A reader without recursion: each open BLOCK is a letter (c d: the two of ?, l, t, k: a TAKER, z). */
    private static int read(String text) {
        ArrayDeque<Character> open = new ArrayDeque<>();
        ArrayDeque<Integer> counts = new ArrayDeque<>();
        char brace = 0;
        boolean behindTry = false;
        for (int i = 0; i <= text.length(); i++) {
            char c = i < text.length() ? text.charAt(i) : 0;
            if (brace != 0) {
                if (c != '{') {
                    return 100 + i;
                }
                if (open.size() == 8) {
                    return 200 + i;
                }
                open.push(brace);
                if (brace == 't') {
                    counts.push(0);
                }
                brace = 0;
                continue;
            }
            if (behindTry) {
                behindTry = false;
                if (c >= 'A' && c <= 'F') {
                    if (counts.peek() == 6) {
                        return 300 + i;
                    }
                    counts.push(counts.pop() + 1);
                    brace = 'k';
                    continue;
                }
                int takers = counts.pop();
                if (c == 'Z') {
                    brace = 'z';
                    continue;
                }
                if (takers == 0) {
                    return 100 + i;
                }
            }
            if (i == text.length()) {
                return open.isEmpty() ? 0 : 100 + i;
            }
            if (c == '}' && !open.isEmpty()) {
                char shut = open.pop();
                brace = shut == 'c' ? 'd' : 0;
                behindTry = shut == 't' || shut == 'k';
            } else if (c == '?' || c == '*' || c == 'T') {
                brace = c == '?' ? 'c' : c == '*' ? 'l' : 't';
            } else if (c == '^' ? !open.contains('k') : c != '.') {
                String behind = c == '!' ? "ABCDEF" : c == '@' ? "abcdefgh" : c == '+' || c == '-' ? "01" : null;
                if (behind == null) {
                    return 100 + i;
                }
                i++;
                if (i >= text.length() || behind.indexOf(text.charAt(i)) < 0) {
                    return 100 + i;
                }
            }
        }
        return 0;
    }
}

/** What the tests share: counting wrong answers, naming sentences of the document, and TEXTS told as strings. */
final class Check {
    private static int wrong = 0;
    private static int asked = 0;
    private static String sentence = "";
    private static int askedBefore = 0;

    private Check() {
    }

    static void due(String call, long got, long want) {
        asked++;
        if (got != want) {
            wrong++;
            System.out.println(sentence + call + " answered " + got + ", due is " + want);
        }
    }

    static void due(String call, boolean got, boolean want) {
        due(call, got ? 1 : 0, want ? 1 : 0);
    }

    /**
     * From here on, up to the next sentence, answers are held against these words, which stand before the
     * promises of the document or in this one.
     */
    static void sentence(int promise, String words) {
        endSentence();
        sentence = "promise " + promise + ", '" + words + "': ";
        due("whether these words stand in the document", Document.has(promise, words), true);
        askedBefore = asked;
    }

    private static void endSentence() {
        if (!sentence.isEmpty()) {
            due("whether anything was asked", asked > askedBefore, true);
        }
        sentence = "";
    }

    /** Numbers that are none of 0 to the last one: just below, just above, and the ends of int. */
    static int[] noneOf(int last) {
        return new int[] {-1, last + 1, Integer.MIN_VALUE, Integer.MAX_VALUE};
    }

    /** Feeds a text, filled up with zeros to whole rows of twenty bytes; answers what the last feed answers. */
    static int feed(WaysOut x, String text) {
        int answer = WaysOut.NONE;
        for (int at = 0; at < text.length(); at += 20) {
            int[] words = new int[5];
            for (int i = 0; i < 20; i++) {
                int c = at + i < text.length() ? text.charAt(at + i) & 255 : 0;
                words[i / 4] |= c << 24 - 8 * (i % 4);
            }
            answer = x.feed(words[0], words[1], words[2], words[3], words[4]);
        }
        return answer;
    }

    /** Makes a text the TEXT of a ROUTINE; answers what text() answers. */
    static int tell(WaysOut x, int r, String text) {
        feed(x, text);
        return x.text(r, text.length());
    }

    /** A new object with these TEXTS from ROUTINE 0 on. */
    static WaysOut told(String... texts) {
        WaysOut x = new WaysOut();
        for (int r = 0; r < texts.length; r++) {
            due("text of " + r + ": " + texts[r], tell(x, r, texts[r]), 0);
        }
        return x;
    }

    /** The bytes of a ROUTINE's TEXT, as look() tells them. */
    static String textOf(WaysOut x, int r) {
        StringBuilder out = new StringBuilder();
        for (int i = 0; i < x.look(r, 0); i++) {
            out.append((char) x.look(r, 100 + i));
        }
        return out.toString();
    }

    static void dueText(WaysOut x, int r, String want) {
        String got = textOf(x, r);
        due("the TEXT of " + r + " is <" + got + ">, due <" + want + ">: whether they are the same", got.equals(want), true);
    }

    static void finish(String name) {
        endSentence();
        System.out.println(name + ": " + asked + " asked, " + wrong + " wrong");
        if (wrong != 0) {
            System.exit(1);
        }
    }
}

/** What the tests share: counting wrong answers, and TEXTS told as strings. */
final class Check {
    private static int wrong = 0;
    private static int asked = 0;

    private Check() {
    }

    static void due(String call, long got, long want) {
        asked++;
        if (got != want) {
            wrong++;
            System.out.println(call + " answered " + got + ", due is " + want);
        }
    }

    static void due(String call, boolean got, boolean want) {
        due(call, got ? 1 : 0, want ? 1 : 0);
    }

    /** Feeds a text, filled up with zeros to whole rows of twenty bytes; answers what the last feed answers. */
    static int feed(WaysOut x, String text) {
        int answer = WaysOut.NONE;
        for (int at = 0; at < text.length(); at += 20) {
            int[] words = new int[5];
            for (int i = 0; i < 20; i++) {
                int c = at + i < text.length() ? text.charAt(at + i) & 255 : 0;
                words[i / 4] |= c << 24 - 8 * (i % 4);
            }
            answer = x.feed(words[0], words[1], words[2], words[3], words[4]);
        }
        return answer;
    }

    /** Makes a text the TEXT of a ROUTINE; answers what text() answers. */
    static int tell(WaysOut x, int r, String text) {
        feed(x, text);
        return x.text(r, text.length());
    }

    /** A new object with these TEXTS from ROUTINE 0 on. */
    static WaysOut told(String... texts) {
        WaysOut x = new WaysOut();
        for (int r = 0; r < texts.length; r++) {
            due("text of " + r + ": " + texts[r], tell(x, r, texts[r]), 0);
        }
        return x;
    }

    static void finish(String name) {
        System.out.println(name + ": " + asked + " asked, " + wrong + " wrong");
        if (wrong != 0) {
            System.exit(1);
        }
    }
}

/** What the tests share: comparing answers, counting, and telling a text to an object. */
final class Check {
    private static int wrong = 0;
    private static int done = 0;
    private static String about = "";

    private Check() {
    }

    /** These words stand ahead of each wrong answer that is told from now on. */
    static void about(String words) {
        about = words;
    }

    static void due(String call, long got, long want) {
        done++;
        if (got != want) {
            wrong++;
            if (wrong <= 50) {
                System.out.println(about + call + " answered " + got + ", due is " + want);
            }
        }
    }

    static void due(String call, boolean got, boolean want) {
        due(call, got ? 1 : 0, want ? 1 : 0);
    }

    static void due(String call, String got, String want) {
        due(call + ": '" + got + "', not '" + want + "',", got.equals(want), true);
    }

    static int wrongSoFar() {
        return wrong;
    }

    /** Puts these bytes on the tape, which holds nothing else then. */
    static void tape(RainOnTheOne x, String text) {
        x.end(0);
        for (int i = 0; i < text.length(); i += 20) {
            int[] words = new int[5];
            for (int k = 0; k < 20; k++) {
                int sign = i + k < text.length() ? text.charAt(i + k) & 255 : 0;
                words[k / 4] |= sign << 24 - k % 4 * 8;
            }
            x.feed(words[0], words[1], words[2], words[3], words[4]);
        }
        x.end(text.length());
    }

    static int text(RainOnTheOne x, String text) {
        tape(x, text);
        return x.text();
    }

    /** A new text must have this FAULT at this place. */
    static void fault(String text, int fault, int place) {
        RainOnTheOne x = new RainOnTheOne();
        due("text of '" + text + "'", text(x, text), fault == 0 ? 0 : -1);
        due("fault(0) of '" + text + "'", x.fault(0), fault);
        due("fault(1) of '" + text + "'", x.fault(1), place);
    }

    static void finish() {
        System.out.println(done + " answers, " + wrong + " of them not as due");
        if (wrong != 0 || done == 0) {
            System.exit(1);
        }
    }
}

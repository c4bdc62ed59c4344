/** Counts and prints answers that are not as due; each test ends by it. */
final class Due {
    /** What no STATE, FRAME, CUBE, place or number of anything is, however large the MACHINE. */
    static final int[] OUTSIDE = {Integer.MIN_VALUE, Integer.MIN_VALUE + 1, -65536, -64, -3, -2,
        1 << 16, 1 << 30, Integer.MAX_VALUE - 1, Integer.MAX_VALUE};

    private int wrong = 0;
    private int asked = 0;
    private String sentence = "";

    /**
     * What comes next tests this sentence, or part of one, of the document: of a promise, or of what stands under
     * 'Terms' (0). SentencesTest looks it up.
     */
    void sentence(int promise, String words) {
        sentence = promise == 0 ? words : "promise " + promise + ": " + words;
    }

    void is(String call, long got, long want) {
        asked++;
        if (got != want) {
            wrong++;
            if (wrong <= 50) {
                System.out.println(call + " answered " + got + ", due is " + want
                    + (sentence.isEmpty() ? "" : " (" + sentence + ")"));
            }
        }
    }

    void is(String call, boolean got, boolean want) {
        is(call, got ? 1L : 0L, want ? 1L : 0L);
    }

    void end() {
        System.out.println(asked - wrong + " answers as due, " + wrong + " not");
        if (wrong != 0 || asked == 0) {
            System.exit(1);
        }
    }

    /** Feeds a text, byte by byte as its characters say, and has it read: what text() answered. */
    static int read(FencedStates x, String text) {
        feed(x, text);
        return x.text();
    }

    static void feed(FencedStates x, String text) {
        int start = x.about(3);
        for (int from = 0; from < text.length(); from += 20) {
            x.feed(four(text, from), four(text, from + 4), four(text, from + 8),
                four(text, from + 12), four(text, from + 16));
        }
        x.end(start + text.length());
    }

    private static int four(String text, int from) {
        int value = 0;
        for (int i = from; i < from + 4; i++) {
            value = value << 8 | (i < text.length() ? text.charAt(i) & 255 : 0);
        }
        return value;
    }

    static FencedStates of(String text) {
        FencedStates x = new FencedStates();
        if (read(x, text) != 0 || x.load(0) < 1) {
            throw new IllegalStateException("a test's own text is at fault: " + text);
        }
        return x;
    }
}

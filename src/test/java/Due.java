/** Counts and prints the answers that are not the ones that are due. */
final class Due {
    private final String name;
    private String sentence = "";
    private int calls;
    private int wrong;
    private int sentences;
    private int callsAhead;

    Due(String name) {
        this.name = name;
    }

    /** What follows tests this sentence of the document; one that tests nothing is a fault, too. */
    void of(int promise, String words) {
        endSentence();
        sentence = promise + " \"" + words + "\" ";
        sentences++;
        callsAhead = calls;
    }

    void is(String call, long want, long got) {
        calls++;
        if (got != want) {
            wrong++;
            System.out.println(name + ": " + sentence + call + " answered " + got + ", due is " + want);
        }
    }

    void close() {
        endSentence();
        String told = sentences == 0 ? "" : sentences + " sentences, ";
        System.out.println(name + ": " + told + calls + " answers, " + wrong + " not as due");
        if (wrong != 0 || calls == 0) {
            System.exit(1);
        }
    }

    private void endSentence() {
        if (sentences > 0 && calls == callsAhead) {
            wrong++;
            System.out.println(name + ": " + sentence + "has no test");
        }
    }

    /** Numbers that are not from least to most: the nearest ones, and the farthest. */
    static int[] outside(int least, int most) {
        return new int[] {Integer.MIN_VALUE, least - 1, most + 1, Integer.MAX_VALUE};
    }

    /** Puts a text on the tape. */
    static void text(WaysSung x, String text) {
        int before = x.count(6);
        for (int i = 0; i < text.length(); i += 8) {
            long v = 0;
            for (int j = i; j < i + 8; j++) {
                v = v << 8 | (j < text.length() ? text.charAt(j) & 255 : 32);
            }
            x.feed(v);
        }
        x.end(before + text.length());
    }

    /** Tells the rules by a text. */
    static int rules(WaysSung x, String text) {
        text(x, text);
        return x.rules();
    }
}

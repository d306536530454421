/** Counts and prints the answers that are not the ones that are due. */
final class Due {
    private final String name;
    private int calls;
    private int wrong;

    Due(String name) {
        this.name = name;
    }

    void is(String call, long want, long got) {
        calls++;
        if (got != want) {
            wrong++;
            System.out.println(name + ": " + call + " answered " + got + ", due is " + want);
        }
    }

    void close() {
        System.out.println(name + ": " + calls + " answers, " + wrong + " not as due");
        if (wrong != 0 || calls == 0) {
            System.exit(1);
        }
    }

    /** Puts a text on the tape. */
    static void text(WaysSung x, String text) {
        int before = x.count(6);
        for (int i = 0; i < text.length(); i += 8) {
            long v = 0;
            for (int j = i; j < i + 8; j++) {
                v = v << 8 | (j < text.length() ? text.charAt(j) & 255 : 32);
            }
            x.feed(v);
        }
        x.end(before + text.length());
    }

    /** Tells the rules by a text. */
    static int rules(WaysSung x, String text) {
        text(x, text);
        return x.rules();
    }
}

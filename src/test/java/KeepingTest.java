/** Promises 31 to 35: what should be taught, and maps for a court. */
public final class KeepingTest {
    private static final Due due = new Due("KeepingTest");

    public static void main(String[] args) {
        soon();
        teaching();
        keeping();
        maps();
        due.close();
    }

    private static WaysSung land(int verses) {
        WaysSung x = new WaysSung();
        x.place(0, 0);
        for (int v = 0; v < verses; v++) {
            x.verse(0, 0, 0, 1, -4);
        }
        return x;
    }

    private static void soon() {
        WaysSung x = new WaysSung();
        due.is("31: no verses", -4, x.soon(0));
        due.is("31: no verses", -4, x.soon(1));
        due.is("31: no verses", 0, x.soon(2));
        x = land(4);
        due.is("31: the least", 0, x.soon(0));
        due.is("31: none have it", 0, x.soon(1));
        due.is("31: four", 4, x.soon(2));
        for (int i = 0; i < 3; i++) {
            x.one(0, 1, 0);
        }
        x.has(0, 0, true);
        x.has(1, 0, true);
        x.has(0, 1, true);
        x.has(1, 1, true);
        x.has(2, 1, true);
        x.has(1, 3, true);
        x.has(2, 3, true);
        due.is("31: the fewest", 2, x.soon(0));
        x.has(1, 2, true);
        x.has(2, 2, true);
        due.is("31: of several the least", 0, x.soon(0));
        due.is("31: heads", 2, x.soon(1));
        due.is("31: none", 0, x.soon(2));
        x.dies(2);
        due.is("31: the living", 2, x.soon(0));
        due.is("31: heads", 1, x.soon(1));
        x.dies(1);
        due.is("31: without", 2, x.soon(2));
        due.is("31: what", -1, x.soon(3));
        due.is("31: what", -1, x.soon(-1));
    }

    /** Verse 0 is of kin 1, in tongue 3; 0 has it; 1 may learn it. */
    private static WaysSung lesson() {
        WaysSung x = new WaysSung();
        x.place(0, 0);
        x.verse(0, 0, 3, 0, 1);
        x.one(1, 20, 8 | 1);
        x.one(1, 0, 8 | 2);
        x.one(2, 50, 8);
        x.has(0, 0, true);
        return x;
    }

    private static void teaching() {
        WaysSung x = lesson();
        due.is("32: can", 1, x.can(0, 1, 0));
        due.is("32: may not hear", 0, x.can(0, 2, 0));
        due.is("32: has it not", 0, x.can(1, 2, 0));
        Due.rules(x, "hear 1 2;");
        due.is("32: may hear", 1, x.can(0, 2, 0));
        Due.rules(x, "tell 21;");
        due.is("32: too young to tell", 0, x.can(0, 1, 0));
        due.is("33: too young to tell", -2, x.teach(0, 1, 0));
        x.now(1, 0);
        due.is("32: of the age now", 1, x.can(0, 1, 0));
        Due.rules(x, "tell 0;sing 22;");
        due.is("32: too young to sing", 0, x.can(0, 1, 0));
        Due.rules(x, "");
        x.one(1, 50, 7);
        due.is("32: not that tongue", 0, x.can(0, 3, 0));
        x.has(3, 0, true);
        due.is("32: not in that tongue", 0, x.can(3, 1, 0));
        due.is("33: taught", 3, x.teach(0, 1, 0));
        due.is("33: has it", -2, x.teach(0, 1, 0));
        due.is("32: has it", 0, x.can(0, 1, 0));
        due.is("10: has it", 1, x.oneOf(1, 3));
        Due.rules(x, "hear 1 2;sing 0;tell 0;");
        due.is("32: who was taught may teach", 1, x.can(1, 2, 0));
        x.dies(2);
        due.is("32: the dead learn not", 0, x.can(0, 2, 0));
        x.has(1, 0, false);
        x.dies(0);
        due.is("32: the dead teach not", 0, x.can(0, 1, 0));
        due.is("33: the dead teach not", -2, x.teach(0, 1, 0));
        int[][] bad = {{0, 0, 0}, {4, 0, 0}, {0, 4, 0}, {-1, 0, 0}, {0, -1, 0}, {0, 1, 1}, {0, 1, -1}};
        for (int[] b : bad) {
            due.is("32: bad", -1, x.can(b[0], b[1], b[2]));
            due.is("33: bad", -1, x.teach(b[0], b[1], b[2]));
        }
        WaysSung y = lesson();
        y.verse(0, 0, 3, 1, 2);
        y.has(0, 1, true);
        Due.rules(y, "hear 2 1;");
        due.is("32: hears but may not sing", 0, y.can(0, 2, 1));
    }

    private static void keeping() {
        WaysSung x = land(8);
        x.one(0, 50, 1);
        x.one(0, 50, 1);
        due.is("34: nobody has any", 0, x.keep(9));
        for (int v = 0; v < 5; v++) {
            x.has(0, v, true);
        }
        due.is("34: one a year", 1, x.keep(1));
        due.is("34: four years", 4, x.keep(4));
        due.is("34: all", 5, x.keep(9));
        x.has(1, 4, true);
        x.has(1, 5, true);
        due.is("34: two teach", 2, x.keep(1));
        due.is("34: of one head alone", 5, x.keep(9));
        Due.rules(x, "tell 51;");
        due.is("34: ages as they are now", 0, x.keep(9));
        Due.rules(x, "");
        x.dies(0);
        due.is("34: nobody to learn", 0, x.keep(9));
        due.is("34: years", -1, x.keep(0));
        due.is("34: years", -1, x.keep(10));
        due.is("34: years", -1, x.keep(-1));
    }

    private static void maps() {
        WaysSung x = new WaysSung();
        for (int p = 0; p < 12; p++) {
            x.place(0, 0);
        }
        int[][] open = {{0, 1}, {0, 5}, {1, 2}, {1, 5}, {2, 9}, {2, 11}, {2, 3}, {0, 11}, {1, 11}};
        for (int[] v : open) {
            x.verse(v[0], v[1], 0, 1, -4);
        }
        x.verse(3, 0, 0, 0, 1);
        due.is("35: one song", 1, x.map(1, 0));
        due.is("35: one song, least bits", 2, x.map(1, 1));
        due.is("35: two songs at one place", 1, x.map(3, 0));
        due.is("35: two songs at one place", 32, x.map(3, 1));
        due.is("35: fewest ahead of least", 1, x.map(7, 0));
        due.is("35: fewest ahead of least", 2048, x.map(7, 1));
        due.is("35: held", -4, x.map(8, 0));
        due.is("35: held", -4, x.map(9, 1));
        x.verse(3, 7, 0, 1, -4);
        due.is("35: all", 2, x.map(15, 0));
        due.is("35: all", 2048 | 128, x.map(15, 1));
        due.is("35: songs", -1, x.map(0, 0));
        due.is("35: songs", -1, x.map(16, 0));
        due.is("35: songs", -1, x.map(-1, 0));
        due.is("35: what", -1, x.map(1, 2));
        due.is("35: what", -1, x.map(1, -1));
    }
}

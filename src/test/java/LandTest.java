/** Promises 1 to 10: a new object, the land, songs, people. */
public final class LandTest {
    private static final Due due = new Due("LandTest");

    public static void main(String[] args) {
        fresh();
        places();
        verses();
        people();
        having();
        dying();
        time();
        due.close();
    }

    private static void fresh() {
        WaysSung x = new WaysSung();
        int[] counts = {0, 0, 0, 0, 0, 0, 0, -4};
        for (int what = 0; what < counts.length; what++) {
            due.is("1: count " + what, counts[what], x.count(what));
        }
        due.is("1: sing", 12, x.rule(0));
        due.is("1: tell", 20, x.rule(1));
        due.is("1: carry", 3, x.rule(2));
        for (int k = 0; k < 8; k++) {
            due.is("1: hear", 0, x.rule(10 + k));
        }
        for (int v = 0; v < 24; v++) {
            due.is("1: pair", 0, x.rule(30 + v));
        }
        due.is("1: fault", 0, x.fault());
        due.is("1: torn", 0, x.torn());
        for (int k = 0; k < 4; k++) {
            due.is("1: sheet of nothing", -11, x.lay(k, 0, 0));
        }
    }

    private static void places() {
        WaysSung x = new WaysSung();
        due.is("2: height -1", -1, x.place(-1, 0));
        due.is("2: height 10", -1, x.place(10, 0));
        due.is("2: water -1", -1, x.place(0, -1));
        due.is("2: water 16", -1, x.place(0, 16));
        for (int p = 0; p < 12; p++) {
            due.is("2: place", p, x.place(p % 10, p));
        }
        due.is("2: full", -3, x.place(9, 15));
        due.is("2: bad ahead of full", -1, x.place(10, 15));
        due.is("2: count", 12, x.count(0));
        due.is("8: height", 9, x.placeOf(9, 0));
        due.is("8: water", 11, x.placeOf(11, 1));
        due.is("8: has water", 1, x.placeOf(11, 2));
        due.is("8: has no water", 0, x.placeOf(10, 2));
        due.is("8: never dry", -4, x.placeOf(11, 3));
        due.is("8: no songs", 0, x.placeOf(11, 4));
        due.is("8: no place", -1, x.placeOf(12, 0));
        due.is("8: no place", -1, x.placeOf(-1, 0));
        due.is("8: what", -1, x.placeOf(0, 5));
        due.is("8: what", -1, x.placeOf(0, -1));
        x.verse(0, 3, 0, 0, -4);
        x.verse(2, 3, 0, 0, 1);
        x.verse(1, 4, 0, 0, 1);
        due.is("8: songs", 5, x.placeOf(3, 4));
        due.is("13: dry rules", 2, Due.rules(x, "dry 11 3;dry 9 0;"));
        due.is("8: dry since", 3, x.placeOf(11, 3));
        due.is("8: water as told", 11, x.placeOf(11, 1));
        due.is("8: not dry yet", 1, x.placeOf(11, 2));
        due.is("8: dry since now", 0, x.placeOf(9, 2));
        x.now(2, 0);
        due.is("8: the year ahead", 1, x.placeOf(11, 2));
        x.now(3, 0);
        due.is("8: that year", 0, x.placeOf(11, 2));
        x.now(9, 3);
        due.is("8: a later one", 0, x.placeOf(11, 2));
        due.is("8: season 3 without", 0, x.placeOf(7, 2));
        due.is("8: season 3", 1, x.placeOf(8, 2));
    }

    private static void verses() {
        WaysSung x = new WaysSung();
        due.is("3: no place", -1, x.verse(0, 0, 0, 1, -4));
        x.place(1, 0);
        x.place(2, 0);
        due.is("3: song", -1, x.verse(4, 0, 0, 1, -4));
        due.is("3: song", -1, x.verse(-1, 0, 0, 1, -4));
        due.is("3: place", -1, x.verse(0, 2, 0, 1, -4));
        due.is("3: place", -1, x.verse(0, -1, 0, 1, -4));
        due.is("3: tongue", -1, x.verse(0, 0, 9, 1, -4));
        due.is("3: tongue", -1, x.verse(0, 0, -1, 1, -4));
        due.is("3: kin", -1, x.verse(0, 0, 0, 1, 8));
        due.is("3: kin", -1, x.verse(0, 0, 0, 1, -1));
        due.is("3: kin", -1, x.verse(0, 0, 0, 1, -5));
        due.is("3: none came", 0, x.count(1));
        due.is("3: days of the first", 0, x.verse(0, 0, 8, -77, -4));
        due.is("3: days", -1, x.verse(0, 1, 0, 0, 7));
        due.is("3: days", -1, x.verse(0, 1, 0, 10, 7));
        due.is("3: first of another", 1, x.verse(3, 1, 1, 99, 0));
        due.is("3: second", 2, x.verse(0, 1, 2, 9, 7));
        int[] zero = {0, 0, 8, 0, -4, 0, 0};
        int[] two = {0, 1, 2, 9, 7, 1, 0};
        for (int what = 0; what < 7; what++) {
            due.is("9: verse 0, " + what, zero[what], x.verseOf(0, what));
            due.is("9: verse 2, " + what, two[what], x.verseOf(2, what));
        }
        due.is("9: what", -1, x.verseOf(0, 7));
        due.is("9: what", -1, x.verseOf(0, -1));
        due.is("9: verse", -1, x.verseOf(3, 0));
        due.is("9: verse", -1, x.verseOf(-1, 0));
        for (int v = 3; v < 24; v++) {
            due.is("3: verse", v, x.verse(3, v % 2, 0, 1, -4));
        }
        due.is("9: number", 22, 1 + x.verseOf(23, 5));
        due.is("3: full", -3, x.verse(1, 0, 0, 1, -4));
        due.is("3: bad ahead of full", -1, x.verse(3, 0, 0, 0, -4));
    }

    private static void people() {
        WaysSung x = new WaysSung();
        due.is("4: kin", -1, x.one(-1, 0, 0));
        due.is("4: kin", -1, x.one(8, 0, 0));
        due.is("4: age", -1, x.one(0, -1, 0));
        due.is("4: age", -1, x.one(0, 100, 0));
        due.is("4: tongues", -1, x.one(0, 0, -1));
        due.is("4: tongues", -1, x.one(0, 0, 512));
        due.is("4: one", 0, x.one(7, 99, 511));
        x.now(10, 0);
        for (int i = 1; i < 8; i++) {
            due.is("4: one", i, x.one(i - 1, i, i));
        }
        due.is("4: full", -3, x.one(0, 0, 0));
        due.is("4: bad ahead of full", -1, x.one(0, 0, 512));
        due.is("10: kin", 7, x.oneOf(0, 0));
        due.is("10: age goes up", 109, x.oneOf(0, 1));
        due.is("10: age when they come", 3, x.oneOf(3, 1));
        due.is("10: tongues", 511, x.oneOf(0, 2));
        due.is("10: verses", 0, x.oneOf(0, 3));
        due.is("10: what", -1, x.oneOf(0, 4));
        due.is("10: what", -1, x.oneOf(0, -1));
        due.is("10: one", -1, x.oneOf(8, 0));
        due.is("10: one", -1, x.oneOf(-1, 0));
        x.now(99, 0);
        due.is("10: age goes up", 92, x.oneOf(3, 1));
    }

    private static WaysSung three() {
        WaysSung x = new WaysSung();
        x.place(0, 0);
        for (int v = 0; v < 3; v++) {
            x.verse(0, 0, 0, 1, 5);
        }
        x.one(0, 1, 0);
        x.one(1, 1, 0);
        return x;
    }

    private static void having() {
        WaysSung x = three();
        due.is("5: had not", 0, x.has(0, 2, true));
        due.is("5: had", 1, x.has(0, 2, true));
        due.is("10: verses", 4, x.oneOf(0, 3));
        due.is("9: heads", 1, x.verseOf(2, 6));
        due.is("5: had", 1, x.has(0, 2, false));
        due.is("5: had not", 0, x.has(0, 2, false));
        due.is("10: verses", 0, x.oneOf(0, 3));
        due.is("5: one", -1, x.has(2, 0, true));
        due.is("5: one", -1, x.has(-1, 0, true));
        due.is("5: verse", -1, x.has(0, 3, true));
        due.is("5: verse", -1, x.has(0, -1, true));
        x.dies(0);
        due.is("5: lives no more", -2, x.has(0, 0, true));
        due.is("5: lives no more, bad", -1, x.has(0, 3, true));
        due.is("10: verses", 0, x.oneOf(0, 3));
    }

    private static void dying() {
        WaysSung x = three();
        x.has(0, 0, true);
        x.has(0, 1, true);
        x.has(1, 1, true);
        due.is("6: one", -1, x.dies(2));
        due.is("6: one", -1, x.dies(-1));
        due.is("6: one verse lost", 1, x.dies(0));
        due.is("6: so already", -2, x.dies(0));
        due.is("10: age", -4, x.oneOf(0, 1));
        due.is("10: verses stay", 3, x.oneOf(0, 3));
        due.is("9: heads", 0, x.verseOf(0, 6));
        due.is("9: heads", 1, x.verseOf(1, 6));
        due.is("6: the dead have none", 1, x.dies(1));
        due.is("40: living", 0, x.count(3));
        due.is("40: people", 2, x.count(2));
    }

    private static void time() {
        WaysSung x = new WaysSung();
        due.is("7: year", 0, x.now(5, 3));
        due.is("7: same year", 5, x.now(5, 1));
        due.is("7: ahead of it", -1, x.now(4, 0));
        due.is("7: year", -1, x.now(-1, 0));
        due.is("7: year", -1, x.now(100, 0));
        due.is("7: season", -1, x.now(6, 4));
        due.is("7: season", -1, x.now(6, -1));
        due.is("40: year", 5, x.count(4));
        due.is("40: season", 1, x.count(5));
        due.is("7: last year", 5, x.now(99, 0));
    }
}

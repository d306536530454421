/** Promises 20 to 25: ways and what is cut. */
public final class WaysTest {
    private static final Due due = new Due("WaysTest");

    public static void main(String[] args) {
        walking();
        water();
        detour();
        wanting();
        parties();
        cutting();
        due.close();
    }

    /** A song over places in a row; one who has all of it. */
    private static WaysSung row(int[] water, int[] days) {
        WaysSung x = new WaysSung();
        for (int p = 0; p < water.length; p++) {
            x.place(0, water[p]);
            x.verse(0, p, 0, days[p], -4);
        }
        x.one(0, 50, 1);
        for (int v = 0; v < water.length; v++) {
            x.has(0, v, true);
        }
        return x;
    }

    private static void walking() {
        WaysSung x = row(new int[] {15, 15, 15, 15}, new int[] {0, 1, 2, 3});
        due.is("20: along", 6, x.way(1, 0, 3));
        due.is("20: back", 6, x.way(1, 3, 0));
        due.is("20: a step", 2, x.way(1, 1, 2));
        due.is("20: a step back", 2, x.way(1, 2, 1));
        due.is("20: the same", 0, x.way(0, 2, 2));
        due.is("20: nobody", -4, x.way(0, 0, 1));
        due.is("22: all", 15, x.reach(1, 2));
        due.is("22: nobody", 4, x.reach(0, 2));
        x.has(0, 2, false);
        due.is("20: both must be led", -4, x.way(1, 1, 2));
        due.is("20: both must be led", -4, x.way(1, 2, 3));
        due.is("22: part", 3, x.reach(1, 0));
        due.is("22: alone", 8, x.reach(1, 3));
        x.place(0, 0);
        due.is("22: a place without verses", 16, x.reach(1, 4));
        due.is("20: people", -1, x.way(2, 0, 0));
        due.is("20: people", -1, x.way(-1, 0, 0));
        due.is("20: place", -1, x.way(1, 5, 0));
        due.is("20: place", -1, x.way(1, 0, 5));
        due.is("20: place", -1, x.way(1, -1, 0));
        due.is("20: place", -1, x.way(1, 0, -1));
        due.is("22: people", -1, x.reach(2, 0));
        due.is("22: place", -1, x.reach(1, 5));
        due.is("22: place", -1, x.reach(1, -1));
    }

    private static void water() {
        WaysSung x = row(new int[] {0, 0, 0, 1, 0}, new int[] {0, 1, 1, 1, 3});
        due.is("20: they begin with it", 3, x.way(1, 0, 3));
        due.is("20: and have it anew", 6, x.way(1, 0, 4));
        due.is("20: from the dry end", 6, x.way(1, 4, 0));
        Due.rules(x, "carry 2;");
        due.is("20: water at the end is too late", -4, x.way(1, 0, 3));
        due.is("20: just so far", 2, x.way(1, 0, 2));
        due.is("22: so far", 7, x.reach(1, 0));
        due.is("22: to water and on", 15, x.reach(1, 1));
        Due.rules(x, "");
        x.now(0, 1);
        due.is("20: another season", -4, x.way(1, 0, 4));
        due.is("20: another season, just so far", 3, x.way(1, 0, 3));
        x.now(0, 0);
        Due.rules(x, "dry 3 7;");
        due.is("20: not dry yet", 6, x.way(1, 0, 4));
        x.now(7, 0);
        due.is("20: dry", -4, x.way(1, 0, 4));
        Due.rules(x, "dry 3 7;carry 20;");
        due.is("20: carried", 6, x.way(1, 0, 4));
        WaysSung z = row(new int[] {1, 0, 0, 1, 0, 0}, new int[] {0, 9, 9, 2, 9, 9});
        Due.rules(z, "carry 20;");
        due.is("20: the longest steps", 38, z.way(1, 0, 5));
        due.is("20: and back", 38, z.way(1, 5, 0));
        due.is("22: the longest steps", 63, z.reach(1, 0));
        Due.rules(z, "carry 19;");
        due.is("20: a day too long", -4, z.way(1, 0, 5));
        due.is("22: a day too long", 7, z.reach(1, 0));
        WaysSung y = row(new int[] {15, 0}, new int[] {0, 4});
        due.is("20: one step too long", -4, y.way(1, 0, 1));
        Due.rules(y, "carry 4;");
        due.is("20: one step just so long", 4, y.way(1, 0, 1));
    }

    /** 0 to 1 in 3 days, 1 to 2 in 1 day; from 1 there is a well, place 3, one day off. */
    private static void detour() {
        WaysSung x = new WaysSung();
        x.place(0, 0);
        x.place(0, 0);
        x.place(0, 0);
        x.place(0, 15);
        x.verse(0, 0, 0, 0, -4);
        x.verse(0, 1, 0, 3, -4);
        x.verse(0, 2, 0, 1, -4);
        x.verse(1, 1, 0, 0, -4);
        x.verse(1, 3, 0, 1, -4);
        x.verse(2, 0, 0, 0, -4);
        x.verse(2, 1, 0, 2, -4);
        x.one(0, 50, 1);
        for (int v = 0; v < 5; v++) {
            x.has(0, v, true);
        }
        Due.rules(x, "carry 4;");
        due.is("20: straight", 4, x.way(1, 0, 2));
        due.is("20: to the well", 4, x.way(1, 0, 3));
        Due.rules(x, "carry 3;");
        due.is("20: the well is too far", -4, x.way(1, 0, 2));
        x.has(0, 5, true);
        x.has(0, 6, true);
        due.is("20: by another song", 2, x.way(1, 0, 1));
        due.is("20: by another song, on", 3, x.way(1, 0, 2));
        x.verse(3, 2, 0, 0, -4);
        x.place(0, 0);
        x.verse(3, 4, 0, 2, -4);
        x.has(0, 7, true);
        x.has(0, 8, true);
        due.is("20: from the middle", 3, x.way(1, 1, 4));
        due.is("20: first dry, then by the well", -4, x.way(1, 0, 4));
        Due.rules(x, "carry 4;");
        due.is("20: round by the well, at one place twice", 2 + 1 + 1 + 1 + 2, x.way(1, 0, 4));
        Due.rules(x, "carry 5;");
        due.is("20: no need of the well", 5, x.way(1, 0, 4));
    }

    private static void wanting() {
        WaysSung x = row(new int[] {15, 15, 15, 15}, new int[] {0, 1, 1, 1});
        due.is("21: there is a way", -2, x.wanting(1, 0, 3));
        due.is("21: the same", -2, x.wanting(0, 3, 3));
        x.has(0, 2, false);
        due.is("21: the one", 2, x.wanting(1, 0, 3));
        x.has(0, 0, false);
        due.is("21: no one verse", -4, x.wanting(1, 0, 3));
        due.is("21: another one", 0, x.wanting(1, 0, 1));
        Due.rules(x, "pair 1 9;");
        x.has(0, 0, true);
        x.has(0, 2, true);
        due.is("21: wanting for its pair", 1, x.wanting(1, 0, 2));
        Due.rules(x, "carry 1;dry 1 0;");
        due.is("21: no water", -4, x.wanting(1, 0, 2));
        due.is("21: people", -1, x.wanting(2, 0, 0));
        due.is("21: place", -1, x.wanting(1, 4, 0));
        due.is("21: place", -1, x.wanting(1, 0, 4));
        WaysSung y = row(new int[] {15, 15}, new int[] {0, 1});
        y.verse(1, 0, 0, 0, -4);
        y.verse(1, 1, 0, 1, -4);
        y.has(0, 0, false);
        y.has(0, 3, true);
        due.is("21: the least", 0, y.wanting(1, 0, 1));
    }

    private static void parties() {
        WaysSung x = row(new int[] {15, 15, 15}, new int[] {0, 1, 2});
        due.is("23: the one", 1, x.party(0, 2, 0));
        due.is("23: its days", 3, x.party(0, 2, 1));
        due.is("23: nobody", 0, x.party(1, 1, 0));
        due.is("23: nobody's days", 0, x.party(1, 1, 1));
        x.has(0, 1, false);
        due.is("23: none", -4, x.party(0, 2, 0));
        due.is("23: none", -4, x.party(0, 2, 1));
        for (int i = 1; i < 5; i++) {
            x.one(0, 50, 1);
        }
        x.has(1, 0, true);
        x.has(2, 2, true);
        x.has(4, 1, true);
        x.has(3, 1, true);
        due.is("23: two, the least bits", 1 | 8, x.party(0, 2, 0));
        x.has(0, 0, false);
        due.is("23: three", 1 | 2 | 8, x.party(0, 2, 0));
        x.has(4, 0, true);
        due.is("23: fewer ahead of less", 1 | 16, x.party(0, 2, 0));
        x.dies(0);
        due.is("23: the living", 4 | 16, x.party(0, 2, 0));
        due.is("23: days", 3, x.party(0, 2, 1));
        due.is("23: place", -1, x.party(3, 0, 0));
        due.is("23: place", -1, x.party(0, -1, 0));
        due.is("23: what", -1, x.party(0, 0, 2));
        due.is("23: what", -1, x.party(0, 0, -1));
    }

    private static void cutting() {
        WaysSung x = new WaysSung();
        for (int p = 0; p < 4; p++) {
            x.place(0, 0);
        }
        int[][] told = {{0, 0}, {0, 1}, {0, 2}, {1, 1}, {1, 2}, {2, 1}, {3, 2}, {3, 1}, {3, 1}, {3, 0}};
        for (int v = 0; v < told.length; v++) {
            x.verse(told[v][0], told[v][1], 0, 1, v % 2 == 0 ? -4 : 2);
        }
        x.one(1, 5, 0);
        x.one(2, 5, 0);
        due.is("24: verses", 2 | 8 | 32 | 128 | 256, x.cut(2, 0));
        due.is("24: songs", 1 | 8, x.cut(2, 1));
        due.is("24: first and last go on", 0, x.cut(1 | 4, 1));
        due.is("24: all", 1023, x.cut(15, 0));
        due.is("24: all", 9, x.cut(15, 1));
        due.is("24: nothing", 0, x.cut(0, 0));
        due.is("24: nothing", 0, x.cut(8, 1));
        due.is("24: places", -1, x.cut(16, 0));
        due.is("24: places", -1, x.cut(-1, 0));
        due.is("24: what", -1, x.cut(1, 2));
        due.is("24: what", -1, x.cut(1, -1));
        due.is("25: heard", 256, x.cutTold(0, 2, 0));
        due.is("25: others", 4, x.cutTold(0, 2, 1));
        due.is("25: kin", 2 | 8 | 32 | 128 | 256, x.cutTold(1, 2, 0));
        due.is("25: kin", 0, x.cutTold(1, 2, 1));
        due.is("25: one", -1, x.cutTold(2, 2, 0));
        due.is("25: places", -1, x.cutTold(0, 16, 0));
        due.is("25: what", -1, x.cutTold(0, 2, 2));
        due.is("25: what", -1, x.cutTold(0, 2, -1));
    }
}

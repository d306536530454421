/** Promises 20 to 25, sentence by sentence: ways and their water, who can go, what is cut. */
public final class WaysEdgesTest {
    private static final int BAD = -1, STATE = -2, NONE = -4;
    private static final Due due = new Due("WaysEdgesTest");

    public static void main(String[] args) {
        wayBad();
        waySteps();
        wayPlaces();
        wayWater();
        wayWell();
        wayBest();
        wanting();
        wantingOne();
        reach();
        partyBad();
        partyLeast();
        cut();
        cutSongs();
        cutTold();
        due.close();
    }

    private static WaysSung places(int n, int water) {
        WaysSung x = new WaysSung();
        for (int p = 0; p < n; p++) {
            x.place(0, water);
        }
        return x;
    }

    /** Puts open verses of a song at these places, each so many days from the one ahead. */
    private static void sing(WaysSung x, int song, int days, int... at) {
        for (int p : at) {
            x.verse(song, p, 0, days, NONE);
        }
    }

    /** One more who has all verses that there are. */
    private static void singer(WaysSung x) {
        int who = x.one(0, 50, 0);
        for (int v = 0; v < x.count(1); v++) {
            x.has(who, v, true);
        }
    }

    private static void wayBad() {
        due.of(20, "BAD: there is no such ONE, PLACE");
        due.is("no place at all", BAD, new WaysSung().way(0, 0, 0));
        WaysSung x = places(12, 15);
        due.is("nobody of nobody", 0, x.way(0, 0, 0));
        due.is("somebody of nobody", BAD, x.way(1, 0, 0));
        for (int i = 0; i < 8; i++) {
            x.one(0, 50, 0);
        }
        due.is("all eight", 0, x.way(255, 0, 0));
        for (int set : Due.outside(0, 255)) {
            due.is("set " + set, BAD, x.way(set, 0, 0));
        }
        for (int p : Due.outside(0, 11)) {
            due.is("from " + p, BAD, x.way(1, p, 0));
            due.is("to " + p, BAD, x.way(1, 0, p));
            due.is("from and to " + p, BAD, x.way(1, p, p));
        }
        due.of(20, "NONE");
        due.is("no verses", NONE, x.way(255, 0, 11));
        sing(x, 0, 1, 0);
        x.has(0, 0, true);
        due.is("no verse there", NONE, x.way(255, 0, 11));
        due.is("no verse here", NONE, x.way(255, 11, 0));
        due.of(20, "(0: it is the same.)");
        due.is("with no verse, by nobody", 0, x.way(0, 11, 11));
        x = places(1, 0);
        due.is("without water", 0, x.way(0, 0, 0));
    }

    private static void waySteps() {
        WaysSung x = places(5, 15);
        x.verse(0, 0, 0, 9, NONE);
        x.verse(0, 1, 0, 1, NONE);
        x.verse(0, 2, 0, 2, NONE);
        x.verse(1, 2, 0, 9, NONE);
        x.verse(1, 3, 0, 3, NONE);
        x.verse(2, 4, 0, 1, NONE);
        singer(x);
        due.of(20, "steps between two VERSES that follow one another in a SONG, either way round");
        due.is("one step", 1, x.way(1, 0, 1));
        due.is("one step back", 1, x.way(1, 1, 0));
        due.is("two steps", 3, x.way(1, 0, 2));
        due.is("two steps back", 3, x.way(1, 2, 0));
        due.is("from the last of one song to the first of the next", NONE, x.way(1, 3, 4));
        due.of(20, "in the DAYS of the later one");
        due.is("on", 2, x.way(1, 1, 2));
        due.is("back", 2, x.way(1, 2, 1));
        due.of(20, "at a PLACE they may go on by any VERSE that is there");
        due.is("by another song", 6, x.way(1, 0, 3));
        due.is("by another song, back", 6, x.way(1, 3, 0));
        due.of(20, "both LED");
        for (int v = 0; v < 5; v++) {
            x.has(0, v, false);
            due.is("without " + v, NONE, x.way(1, 0, 3));
            due.is("back without " + v, NONE, x.way(1, 3, 0));
            x.has(0, v, true);
        }
        due.is("with all", 6, x.way(1, 0, 3));
        due.is("by nobody", NONE, x.way(0, 0, 3));
    }

    private static void wayPlaces() {
        due.of(20, "at a PLACE they may go on by any VERSE that is there: of the same SONG");
        WaysSung x = places(3, 15);
        sing(x, 0, 1, 0, 1, 2, 1, 2, 0);
        singer(x);
        due.is("back at once by the last verse", 1, x.way(1, 2, 0));
        x.has(0, 1, false);
        x.has(0, 5, false);
        due.is("from 1 by verse 3 alone", NONE, x.way(1, 1, 0));
        WaysSung y = places(2, 15);
        sing(y, 0, 1, 0, 0, 1);
        singer(y);
        due.is("the second verse is here, too", 1, y.way(1, 0, 1));
        y.has(0, 0, false);
        due.is("the first is not needed", 1, y.way(1, 0, 1));
    }

    /** The days from the first to the last place of a row, by all of its verses. */
    private static int row(String rules, int season, int[] water, int... days) {
        WaysSung x = new WaysSung();
        for (int p = 0; p < water.length; p++) {
            x.place(0, water[p]);
            x.verse(0, p, 0, days[p], NONE);
        }
        singer(x);
        Due.rules(x, rules);
        x.now(5, season);
        return x.way(1, 0, water.length - 1);
    }

    private static void wayWater() {
        int[] dry2 = {0, 0};
        int[] dry3 = {0, 0, 0};
        int[] wetEnd = {0, 0, 15};
        int[] wetMiddle = {0, 15, 0};
        due.of(20, "they begin with it, as at a PLACE that HAS it");
        due.is("three days from a dry place", 3, row("", 0, dry2, 0, 3));
        due.of(20, "no step may end more DAYS than carry behind the latest PLACE that HAS WATER: DAYS (1 to 20; 3)");
        due.is("four days", NONE, row("", 0, dry2, 0, 4));
        due.is("1 and 2 days", 3, row("", 0, dry3, 0, 1, 2));
        due.is("2 and 2 days", NONE, row("", 0, dry3, 0, 2, 2));
        due.is("carry 1, a day", 1, row("carry 1;", 0, dry2, 0, 1));
        due.is("carry 1, two days", NONE, row("carry 1;", 0, dry2, 0, 2));
        int[] dry4 = {0, 0, 0, 0};
        due.is("carry 20, 20 days", 20, row("carry 20;", 0, dry4, 0, 9, 9, 2));
        due.is("carry 20, 21 days", NONE, row("carry 20;", 0, dry4, 0, 9, 9, 3));
        due.is("carry 19, 20 days", NONE, row("carry 19;", 0, dry4, 0, 9, 9, 2));
        due.of(20, "the latest PLACE ahead of its end that HAS WATER");
        due.is("water in the middle", 6, row("", 0, wetMiddle, 0, 3, 3));
        due.is("a step behind it too long", NONE, row("", 0, wetMiddle, 0, 3, 4));
        due.is("a step ahead of it too long", NONE, row("", 0, wetMiddle, 0, 4, 3));
        due.is("water at the end alone is too late", NONE, row("", 0, wetEnd, 0, 2, 2));
        due.is("water at both ends of a step too long", NONE, row("", 0, new int[] {15, 15}, 0, 4));
        due.is("at each place in turn", 27, row("", 0, new int[] {15, 15, 15, 15, 15, 15, 15, 15, 15, 15}, 0, 3, 3, 3, 3, 3, 3, 3, 3, 3));
        for (int middle = 0; middle < 12; middle++) {
            due.is("at place " + middle, 6, over(middle, 15));
            due.is("not at place " + middle, NONE, over(middle, 0));
        }
        due.of(20, "a PLACE that HAS WATER: in THE SEASON");
        due.is("in season 2", 6, row("", 2, new int[] {0, 4, 0}, 0, 3, 3));
        due.is("in another one", NONE, row("", 1, new int[] {0, 4, 0}, 0, 3, 3));
        due.of(20, "a PLACE that HAS WATER: not DRY since THE YEAR or an earlier one");
        due.is("dry since the year", NONE, row("dry 1 5;", 0, wetMiddle, 0, 3, 3));
        due.is("dry since an earlier one", NONE, row("dry 1 4;", 0, wetMiddle, 0, 3, 3));
        due.is("dry since a later one", 6, row("dry 1 6;", 0, wetMiddle, 0, 3, 3));
        due.is("they begin at a dry one", 6, row("dry 0 0;", 0, wetMiddle, 0, 3, 3));
    }

    /** The days from one dry place to another one over a third, each step of 3 days. */
    private static int over(int middle, int water) {
        WaysSung x = new WaysSung();
        for (int p = 0; p < 12; p++) {
            x.place(0, p == middle ? water : 0);
        }
        sing(x, 0, 3, (middle + 1) % 12, middle, (middle + 2) % 12);
        singer(x);
        return x.way(1, (middle + 1) % 12, (middle + 2) % 12);
    }

    /** Two ways to place 3 in two days, by place 1 and by place 2, one of which has water; on to 4 in two. */
    private static int fork(int water1, int water2) {
        WaysSung x = places(1, 0);
        x.place(0, water1);
        x.place(0, water2);
        x.place(0, 0);
        x.place(0, 0);
        sing(x, 0, 1, 0, 1, 3);
        sing(x, 1, 1, 0, 2, 3);
        sing(x, 2, 2, 3, 4);
        singer(x);
        return x.way(1, 0, 4);
    }

    private static void wayWell() {
        due.of(20, "the latest PLACE: of two ways that come there on the same day");
        due.is("the one has water", 4, fork(15, 0));
        due.is("the other has water", 4, fork(0, 15));
        due.is("both have water", 4, fork(15, 15));
        due.is("neither has water", NONE, fork(0, 0));
        due.of(20, "with WATER: at a PLACE twice, by the well");
        WaysSung x = places(4, 0);
        x.place(0, 15);
        sing(x, 0, 2, 0, 1, 2);
        sing(x, 1, 1, 1, 4);
        singer(x);
        due.is("0, 1, the well, 1, 2", 2 + 1 + 1 + 2, x.way(1, 0, 2));
        x.has(0, 4, false);
        due.is("the well is not led", NONE, x.way(1, 0, 2));
        x.has(0, 4, true);
        Due.rules(x, "carry 4;");
        due.is("with more on the back", 4, x.way(1, 0, 2));
        Due.rules(x, "carry 2;");
        due.is("the well is too far", NONE, x.way(1, 0, 2));
    }

    private static void wayBest() {
        due.of(20, "The best: the fewest DAYS");
        WaysSung x = places(12, 15);
        x.verse(0, 0, 0, 0, NONE);
        x.verse(0, 11, 0, 9, NONE);
        sing(x, 1, 4, 0, 5, 11);
        singer(x);
        Due.rules(x, "carry 9;");
        due.is("two steps are fewer days than one", 8, x.way(1, 0, 11));
        x.has(0, 3, false);
        due.is("one step", 9, x.way(1, 0, 11));
        WaysSung y = places(12, 15);
        sing(y, 0, 9, 0, 1, 2, 3, 4, 5, 6, 7, 8, 9, 10, 11);
        singer(y);
        Due.rules(y, "carry 9;");
        due.is("over all places", 99, y.way(1, 0, 11));
        due.is("and back", 99, y.way(1, 11, 0));
    }

    private static void wanting() {
        due.of(21, "BAD: there is no such ONE, PLACE");
        due.is("no place at all", BAD, new WaysSung().wanting(0, 0, 0));
        WaysSung x = places(3, 15);
        sing(x, 0, 1, 0, 1, 2);
        x.one(0, 50, 0);
        for (int set : Due.outside(0, 1)) {
            due.is("set " + set, BAD, x.wanting(set, 0, 2));
        }
        for (int p : Due.outside(0, 2)) {
            due.is("from " + p, BAD, x.wanting(1, p, 0));
            due.is("to " + p, BAD, x.wanting(1, 0, p));
        }
        due.of(21, "STATE: there is a way");
        due.is("the same place", STATE, x.wanting(0, 2, 2));
        x.has(0, 0, true);
        x.has(0, 1, true);
        due.is("a step", STATE, x.wanting(1, 0, 1));
        due.of(21, "NONE: no one VERSE");
        due.is("two are wanting", NONE, x.wanting(0, 0, 1));
        x.has(0, 1, false);
        due.is("two of three", NONE, x.wanting(1, 0, 2));
        x.place(0, 15);
        due.is("a place without a verse", NONE, x.wanting(1, 0, 3));
        due.is("no verses at all", NONE, places(2, 15).wanting(0, 0, 1));
        Due.rules(x, "carry 1;");
        x.has(0, 2, true);
        due.is("water all along", 1, x.wanting(1, 0, 2));
        Due.rules(x, "carry 1;dry 1 0;");
        due.is("the water is wanting", NONE, x.wanting(1, 0, 2));
    }

    private static void wantingOne() {
        due.of(21, "the least VERSE that is not LED so that there were a way, if it were");
        WaysSung x = places(3, 15);
        sing(x, 0, 1, 0, 1, 2);
        sing(x, 1, 1, 0, 2);
        x.one(0, 50, 0);
        x.has(0, 4, true);
        due.is("the fourth", 3, x.wanting(1, 0, 2));
        x.has(0, 1, true);
        x.has(0, 2, true);
        due.is("of two the least", 0, x.wanting(1, 0, 2));
        x.has(0, 0, true);
        x.has(0, 2, false);
        x.has(0, 4, false);
        due.is("the last of its song", 2, x.wanting(1, 0, 2));
        WaysSung y = places(3, 15);
        sing(y, 0, 1, 0, 1, 2);
        singer(y);
        Due.rules(y, "pair 1 23;");
        due.is("one that may be sung, but for its pair", 1, y.wanting(1, 0, 2));
        Due.rules(y, "pair 1 2;");
        y.has(0, 2, false);
        due.is("it alone were led, not its pair", 1, y.wanting(1, 0, 1));
        due.is("two of them", NONE, y.wanting(1, 0, 2));
        WaysSung z = places(2, 15);
        sing(z, 0, 1, 0, 1);
        z.one(0, 11, 0);
        z.one(0, 50, 0);
        z.has(0, 0, true);
        z.has(1, 1, true);
        due.is("who has it is too young", 0, z.wanting(3, 0, 1));
    }

    private static void reach() {
        due.of(22, "BAD: there is no such ONE, PLACE");
        due.is("no place at all", BAD, new WaysSung().reach(0, 0));
        WaysSung x = places(12, 15);
        for (int p : Due.outside(0, 11)) {
            due.is("from " + p, BAD, x.reach(0, p));
        }
        due.is("somebody of nobody", BAD, x.reach(1, 0));
        due.of(22, "the first one, too");
        due.is("nobody, no verse", 1, x.reach(0, 0));
        due.is("nobody, no verse, the last", 1 << 11, x.reach(0, 11));
        due.of(22, "PLACES to which there is a way (bits)");
        sing(x, 0, 1, 0, 1, 2, 3, 4, 5, 6, 7, 8, 9, 10, 11);
        singer(x);
        for (int set : Due.outside(0, 1)) {
            due.is("set " + set, BAD, x.reach(set, 0));
        }
        due.is("all", 4095, x.reach(1, 0));
        due.is("all from the last", 4095, x.reach(1, 11));
        due.is("by nobody", 2, x.reach(0, 1));
        x.has(0, 6, false);
        due.is("up to the verse that is wanting", 63, x.reach(1, 0));
        due.is("behind it", 0xf80, x.reach(1, 11));
        due.is("at it", 64, x.reach(1, 6));
        for (int p = 0; p < 4; p++) {
            due.is("all have water", 63, x.reach(1, p));
        }
        Due.rules(x, "carry 2;dry 2 0;dry 3 0;");
        due.is("two dry ones in a row", 15, x.reach(1, 0));
        due.is("they begin with water at a dry one", 63, x.reach(1, 2));
        due.is("from the other side", 0x3c, x.reach(1, 5));
    }

    private static void partyBad() {
        due.of(23, "BAD: there is no such PLACE; what 0, 1");
        due.is("no place at all", BAD, new WaysSung().party(0, 0, 0));
        WaysSung x = places(2, 15);
        for (int p : Due.outside(0, 1)) {
            due.is("from " + p, BAD, x.party(p, 0, 0));
            due.is("to " + p, BAD, x.party(0, p, 0));
        }
        for (int what : Due.outside(0, 1)) {
            due.is("what " + what, BAD, x.party(0, 0, what));
            due.is("what " + what + " ahead of NONE", BAD, x.party(0, 1, what));
        }
        due.of(23, "NONE");
        due.is("nobody at all", NONE, x.party(0, 1, 0));
        sing(x, 0, 4, 0, 1);
        singer(x);
        due.is("too far", NONE, x.party(0, 1, 0));
        due.is("too far", NONE, x.party(0, 1, 1));
        due.of(23, "The least set: of nobody, to the same PLACE");
        due.is("the set", 0, x.party(1, 1, 0));
        due.is("its days", 0, x.party(1, 1, 1));
        due.is("without people", 0, places(1, 0).party(0, 0, 0));
    }

    private static void partyLeast() {
        WaysSung x = places(4, 15);
        sing(x, 0, 2, 0, 1, 2);
        sing(x, 1, 1, 0, 2);
        for (int i = 0; i < 8; i++) {
            x.one(0, 50, 0);
        }
        due.of(23, "fewest, then the least bits");
        x.has(0, 0, true);
        x.has(1, 1, true);
        x.has(2, 2, true);
        due.is("three", 7, x.party(0, 2, 0));
        x.has(6, 0, true);
        x.has(6, 1, true);
        due.is("two, one of them late", 64 | 4, x.party(0, 2, 0));
        x.has(5, 2, true);
        x.has(3, 0, true);
        x.has(3, 1, true);
        due.is("two, the least bits", 8 | 4, x.party(0, 2, 0));
        x.has(7, 0, true);
        x.has(7, 1, true);
        x.has(7, 2, true);
        due.is("the last one alone", 128, x.party(0, 2, 0));
        due.of(23, "its DAYS (1)");
        x.has(0, 3, true);
        x.has(1, 4, true);
        due.is("two others are faster", 1, x.way(3, 0, 2));
        due.is("the least set all the same", 128, x.party(0, 2, 0));
        due.is("its days", 4, x.party(0, 2, 1));
        due.of(23, "by which there is a way: all eight of them");
        WaysSung y = places(8, 15);
        sing(y, 0, 1, 0, 1, 2, 3, 4, 5, 6, 7);
        for (int i = 0; i < 8; i++) {
            y.one(0, 50, 0);
            y.has(i, i, true);
        }
        due.is("all", 255, y.party(0, 7, 0));
        due.is("all but the first", 254, y.party(7, 1, 0));
        y.dies(7);
        due.is("one died", NONE, y.party(0, 7, 0));
        Due.rules(y, "pair 0 6;");
        due.is("one more for a pair", 1 | 2 | 64, y.party(0, 1, 0));
    }

    private static void cut() {
        due.of(24, "BAD: there is no such PLACE; what 0, 1");
        WaysSung x = new WaysSung();
        due.is("nothing of nothing", 0, x.cut(0, 0));
        due.is("something of nothing", BAD, x.cut(1, 0));
        x = places(12, 15);
        for (int set : Due.outside(0, 4095)) {
            due.is("set " + set, BAD, x.cut(set, 0));
            due.is("set " + set, BAD, x.cut(set, 1));
        }
        for (int what : Due.outside(0, 1)) {
            due.is("what " + what, BAD, x.cut(1, what));
        }
        due.of(24, "if PLACES (bits) are shut: VERSES there (what 0, bits)");
        due.is("no verses", 0, x.cut(4095, 0));
        sing(x, 0, 1, 0, 11, 0, 5);
        sing(x, 3, 1, 11);
        due.is("none shut", 0, x.cut(0, 0));
        due.is("the first", 1 | 4, x.cut(1, 0));
        due.is("the last", 2 | 16, x.cut(1 << 11, 0));
        due.is("all", 31, x.cut(4095, 0));
        due.is("one without verses", 0, x.cut(2, 0));
    }

    private static void cutSongs() {
        due.of(24, "SONGS with a VERSE on both sides of one that is shut (1, bits)");
        WaysSung x = places(4, 15);
        sing(x, 0, 1, 0);
        sing(x, 1, 1, 0, 1);
        sing(x, 2, 1, 0, 1, 2);
        sing(x, 3, 1, 2, 3, 0, 1);
        due.is("none shut", 0, x.cut(0, 1));
        due.is("place 0: of songs 0 to 2 the first", 8, x.cut(1, 1));
        due.is("place 1: the last, the middle, the last", 4, x.cut(2, 1));
        due.is("place 2: the last, the first", 0, x.cut(4, 1));
        due.is("place 3: the second", 8, x.cut(8, 1));
        due.is("all shut: a verse on both sides is one all the same", 12, x.cut(15, 1));
        due.is("places 2 and 0: the first, and one within song 3", 8, x.cut(5, 1));
    }

    private static void cutTold() {
        due.of(25, "BAD: there is no such ONE, PLACE; what 0, 1");
        WaysSung x = places(12, 15);
        due.is("no one at all", BAD, x.cutTold(0, 0, 0));
        x.one(2, 5, 0);
        for (int who : Due.outside(0, 0)) {
            due.is("one " + who, BAD, x.cutTold(who, 0, 0));
        }
        for (int set : Due.outside(0, 4095)) {
            due.is("set " + set, BAD, x.cutTold(0, set, 0));
        }
        for (int what : Due.outside(0, 1)) {
            due.is("what " + what, BAD, x.cutTold(0, 1, what));
        }
        due.of(25, "VERSES that are cut and it may HEAR (what 0, bits), how many others (1)");
        due.is("no verses", 0, x.cutTold(0, 4095, 0));
        due.is("no others", 0, x.cutTold(0, 4095, 1));
        for (int v = 0; v < 24; v++) {
            x.verse(v % 4, v % 12, 0, 1, v < 8 ? NONE : v % 3);
        }
        due.is("none shut", 0, x.cutTold(0, 0, 0));
        due.is("none shut", 0, x.cutTold(0, 0, 1));
        due.is("the first and the last place: verses 0, 12, 11, 23", 1 | 1 << 11 | 1 << 23, x.cutTold(0, 1 | 1 << 11, 0));
        due.is("of these not heard", 1, x.cutTold(0, 1 | 1 << 11, 1));
        due.is("all that it hears", x.may(0, 0), x.cutTold(0, 4095, 0));
        due.is("all others", 24 - Integer.bitCount(x.may(0, 0)), x.cutTold(0, 4095, 1));
        Due.rules(x, "hear 0 2;hear 1 2;");
        due.is("it may hear all", (1 << 24) - 1, x.cutTold(0, 4095, 0));
        due.is("no others", 0, x.cutTold(0, 4095, 1));
        x.dies(0);
        due.is("who lives no more", 0, x.cutTold(0, 4095, 1));
    }
}

/** Promises 1 to 10, sentence by sentence: what is just inside a bound, just outside, empty, full, refused. */
public final class LandEdgesTest {
    private static final int BAD = -1, STATE = -2, FULL = -3, NONE = -4;
    private static final Due due = new Due("LandEdgesTest");

    public static void main(String[] args) {
        fresh();
        place();
        verse();
        verseDays();
        one();
        has();
        dies();
        now();
        placeOf();
        waterOf();
        verseOf();
        oneOf();
        due.close();
    }

    /** One place, so many verses of song 0 that kin 7 holds, so many people of kin 0. */
    private static WaysSung land(int verses, int people) {
        WaysSung x = new WaysSung();
        x.place(0, 15);
        for (int v = 0; v < verses; v++) {
            x.verse(0, 0, 0, 1, 7);
        }
        for (int i = 0; i < people; i++) {
            x.one(0, 50, 0);
        }
        return x;
    }

    private static void fresh() {
        WaysSung other = land(24, 8);
        other.now(9, 3);
        other.sheet(0, 0, 9);
        Due.rules(other, "sing 1;tell 1;carry 1;hear 0 0;pair 0 1;dry 0 0;");
        other.feed(0);
        WaysSung x = new WaysSung();
        due.of(1, "Nothing");
        for (int what = 0; what < 7; what++) {
            due.is("count " + what, 0, x.count(what));
        }
        due.is("no place", BAD, x.placeOf(0, 0));
        due.is("no verse", BAD, x.verseOf(0, 0));
        due.is("no one", BAD, x.oneOf(0, 0));
        due.is("no fault", 0, x.fault());
        due.is("not torn", 0, x.torn());
        due.of(1, "RULES as told at first");
        due.is("sing", 12, x.rule(0));
        due.is("tell", 20, x.rule(1));
        due.is("carry", 3, x.rule(2));
        for (int k = 0; k < 8; k++) {
            due.is("hear " + k, 0, x.rule(10 + k));
        }
        for (int v = 0; v < 24; v++) {
            due.is("pair " + v, 0, x.rule(30 + v));
        }
        for (int p = 0; p < 12; p++) {
            x.place(0, 15);
            due.is("not dry " + p, NONE, x.placeOf(p, 3));
        }
        due.of(1, "SHEETS of nothing");
        for (int k = 0; k < 4; k++) {
            due.is("sheet " + k, -11, x.lay(k, 0, 0));
        }
        due.is("cells of sheet 0", NONE, x.count(7));
    }

    private static void place() {
        WaysSung x = new WaysSung();
        due.of(2, "HEIGHT (0 to 9)");
        for (int height : Due.outside(0, 9)) {
            due.is("height " + height, BAD, x.place(height, 0));
        }
        due.is("the least", 0, x.place(0, 7));
        due.is("the most", 1, x.place(9, 8));
        due.is("the least height", 0, x.placeOf(0, 0));
        due.is("the most height", 9, x.placeOf(1, 0));
        due.of(2, "WATER (bits of SEASONS 0 to 3)");
        for (int water : Due.outside(0, 15)) {
            due.is("water " + water, BAD, x.place(0, water));
        }
        due.is("no season", 2, x.place(3, 0));
        due.is("all seasons", 3, x.place(4, 15));
        due.is("no water", 0, x.placeOf(2, 1));
        due.is("all water", 15, x.placeOf(3, 1));
        due.of(2, "PLACES (12) are numbered as they come");
        for (int p = 4; p < 12; p++) {
            due.is("place " + p, p, x.place(5, p));
        }
        due.is("twelve", 12, x.count(0));
        due.of(2, "BAD; FULL");
        due.is("a thirteenth", FULL, x.place(5, 5));
        due.is("a thirteenth, height", BAD, x.place(10, 5));
        due.is("a thirteenth, water", BAD, x.place(5, 16));
        due.is("refused: still twelve", 12, x.count(0));
        due.is("refused: the last as it was", 11, x.placeOf(11, 1));
    }

    private static void verse() {
        WaysSung x = new WaysSung();
        due.of(3, "BAD: there is no such PLACE");
        due.is("no place at all", BAD, x.verse(0, 0, 0, 1, NONE));
        x.place(0, 0);
        for (int place : Due.outside(0, 0)) {
            due.is("place " + place, BAD, x.verse(0, place, 0, 1, NONE));
        }
        due.of(3, "SONGS 0 to 3");
        for (int song : Due.outside(0, 3)) {
            due.is("song " + song, BAD, x.verse(song, 0, 0, 1, NONE));
        }
        due.is("song 0", 0, x.verse(0, 0, 0, 1, NONE));
        due.is("song 3", 1, x.verse(3, 0, 0, 1, NONE));
        due.is("song 3", 3, x.verseOf(1, 0));
        due.of(3, "in a TONGUE (0 to 8)");
        for (int tongue : Due.outside(0, 8)) {
            due.is("tongue " + tongue, BAD, x.verse(0, 0, tongue, 1, NONE));
        }
        due.is("tongue 8", 2, x.verse(0, 0, 8, 1, NONE));
        due.is("tongue 8", 8, x.verseOf(2, 2));
        due.is("tongue 0", 0, x.verseOf(1, 2));
        due.of(3, "held: a KIN, NONE: OPEN");
        for (int held : new int[] {Integer.MIN_VALUE, -5, -3, -2, -1, 8, Integer.MAX_VALUE}) {
            due.is("kin " + held, BAD, x.verse(0, 0, 0, 1, held));
        }
        due.is("kin 0", 3, x.verse(0, 0, 0, 1, 0));
        due.is("kin 7", 4, x.verse(0, 0, 0, 1, 7));
        due.is("open", NONE, x.verseOf(2, 4));
        due.is("kin 0", 0, x.verseOf(3, 4));
        due.is("kin 7", 7, x.verseOf(4, 4));
        due.of(3, "VERSES (24) are numbered as they come");
        for (int v = 5; v < 24; v++) {
            due.is("verse " + v, v, x.verse(1, 0, 0, 1, NONE));
        }
        due.of(3, "BAD; FULL");
        due.is("a twenty-fifth", FULL, x.verse(1, 0, 0, 1, NONE));
        due.is("a first one of a song", FULL, x.verse(2, 0, 0, 0, NONE));
        due.is("song", BAD, x.verse(4, 0, 0, 1, NONE));
        due.is("place", BAD, x.verse(1, 1, 0, 1, NONE));
        due.is("tongue", BAD, x.verse(1, 0, 9, 1, NONE));
        due.is("days", BAD, x.verse(1, 0, 0, 10, NONE));
        due.is("kin", BAD, x.verse(1, 0, 0, 1, 8));
        due.is("refused: still 24", 24, x.count(1));
        due.is("refused: the place has no more songs", 11, x.placeOf(0, 4));
    }

    private static void verseDays() {
        WaysSung x = new WaysSung();
        x.place(0, 0);
        due.of(3, "so many DAYS (1 to 9; of the first one not looked at)");
        int[] any = {Integer.MIN_VALUE, 0, 10, Integer.MAX_VALUE};
        for (int song = 0; song < 4; song++) {
            due.is("the first in " + any[song], song, x.verse(song, 0, 0, any[song], NONE));
        }
        for (int days : Due.outside(1, 9)) {
            due.is("the second in " + days, BAD, x.verse(0, 0, 0, days, NONE));
        }
        due.is("a day", 4, x.verse(0, 0, 0, 1, NONE));
        due.is("nine days", 5, x.verse(0, 0, 0, 9, NONE));
        due.is("a day", 1, x.verseOf(4, 3));
        due.is("nine days", 9, x.verseOf(5, 3));
        due.is("refused: five behind the first", 2, x.verseOf(5, 5));
        due.of(3, "of a SONG (behind its last one)");
        x.verse(2, 0, 0, 5, NONE);
        due.is("number in its song", 1, x.verseOf(6, 5));
    }

    private static void one() {
        WaysSung x = new WaysSung();
        due.of(4, "KIN (0 to 7)");
        for (int kin : Due.outside(0, 7)) {
            due.is("kin " + kin, BAD, x.one(kin, 0, 0));
        }
        due.is("kin 0", 0, x.one(0, 1, 1));
        due.is("kin 7", 1, x.one(7, 1, 1));
        due.is("kin 0", 0, x.oneOf(0, 0));
        due.is("kin 7", 7, x.oneOf(1, 0));
        due.of(4, "AGE when they come (0 to 99)");
        for (int age : Due.outside(0, 99)) {
            due.is("age " + age, BAD, x.one(0, age, 0));
        }
        due.is("age 0", 2, x.one(0, 0, 1));
        due.is("age 99", 3, x.one(0, 99, 1));
        due.is("age 0", 0, x.oneOf(2, 1));
        due.is("age 99", 99, x.oneOf(3, 1));
        due.of(4, "TONGUES (bits of 9)");
        for (int tongues : Due.outside(0, 511)) {
            due.is("tongues " + tongues, BAD, x.one(0, 0, tongues));
        }
        due.is("no tongue", 4, x.one(0, 0, 0));
        due.is("nine tongues", 5, x.one(0, 0, 511));
        due.is("no tongue", 0, x.oneOf(4, 2));
        due.is("nine tongues", 511, x.oneOf(5, 2));
        due.of(4, "PEOPLE (8) are numbered as they come");
        due.is("the seventh", 6, x.one(1, 2, 3));
        due.is("the eighth", 7, x.one(4, 5, 6));
        due.of(4, "BAD; FULL");
        due.is("a ninth", FULL, x.one(0, 0, 0));
        x.dies(0);
        due.is("a ninth, though one died", FULL, x.one(0, 0, 0));
        due.is("kin", BAD, x.one(8, 0, 0));
        due.is("age", BAD, x.one(0, 100, 0));
        due.is("tongues", BAD, x.one(0, 0, 512));
        due.is("refused: still eight", 8, x.count(2));
        due.is("refused: seven that live", 7, x.count(3));
        due.is("refused: the last as it was", 4, x.oneOf(7, 0));
    }

    private static void has() {
        due.of(5, "BAD: there is no such VERSE, ONE");
        due.is("no verse at all", BAD, land(0, 1).has(0, 0, true));
        due.is("no one at all", BAD, land(1, 0).has(0, 0, true));
        WaysSung x = land(23, 2);
        for (int who : Due.outside(0, 1)) {
            due.is("one " + who, BAD, x.has(who, 0, true));
        }
        for (int verse : Due.outside(0, 22)) {
            due.is("verse " + verse, BAD, x.has(0, verse, true));
        }
        due.is("a shift by 32", BAD, x.has(0, 32, true));
        due.is("refused: has none", 0, x.oneOf(0, 3));
        due.of(5, "ONE HAS a VERSE, or not: whether it was so (1, 0)");
        x.verse(0, 0, 0, 1, 7);
        due.is("had it not, has it", 0, x.has(0, 23, true));
        due.is("had it, has it", 1, x.has(0, 23, true));
        due.is("of the first had it not", 0, x.has(0, 0, true));
        due.is("first and last", 1 << 23 | 1, x.oneOf(0, 3));
        due.is("had it, has it not", 1, x.has(0, 23, false));
        due.is("had it not, has it not", 0, x.has(0, 23, false));
        due.is("the first", 1, x.oneOf(0, 3));
        due.is("the other has none", 0, x.oneOf(1, 3));
        due.of(5, "STATE: ONE does not live");
        x.dies(0);
        due.is("to have", STATE, x.has(0, 1, true));
        due.is("not to have", STATE, x.has(0, 0, false));
        due.is("refused: as it was", 1, x.oneOf(0, 3));
        due.is("BAD is the first that fits", BAD, x.has(0, 24, true));
    }

    private static void dies() {
        due.of(6, "BAD: there is no such ONE");
        due.is("no one at all", BAD, new WaysSung().dies(0));
        WaysSung x = land(24, 3);
        for (int who : Due.outside(0, 2)) {
            due.is("one " + who, BAD, x.dies(who));
        }
        due.is("refused: all live", 3, x.count(3));
        due.of(6, "how many VERSES nobody living HAS by that");
        for (int v = 0; v < 24; v++) {
            x.has(0, v, true);
        }
        x.has(1, 5, true);
        due.is("one whose verse another one has", 0, x.dies(1));
        due.is("one who has none", 0, x.dies(2));
        due.is("all verses; the dead one has 5 in vain", 24, x.dies(0));
        WaysSung y = land(24, 2);
        y.has(0, 3, true);
        y.has(0, 4, true);
        y.has(1, 3, true);
        due.is("verses that nobody had do not count", 1, y.dies(0));
        due.is("nor those that were lost already", 1, y.dies(1));
        due.of(6, "STATE: so already");
        due.is("again", STATE, y.dies(0));
        due.is("again, the last", STATE, y.dies(1));
        due.is("people stay", 2, y.count(2));
    }

    private static void now() {
        WaysSung x = new WaysSung();
        due.of(7, "THE YEAR (0 to 99; 0 at first), THE SEASON (0 at first)");
        due.is("the year at first, the same again", 0, x.now(0, 0));
        for (int y : Due.outside(0, 99)) {
            due.is("year " + y, BAD, x.now(y, 1));
        }
        for (int s : Due.outside(0, 3)) {
            due.is("season " + s, BAD, x.now(1, s));
        }
        due.is("refused: the year", 0, x.count(4));
        due.is("refused: the season", 0, x.count(5));
        due.of(7, "THE YEAR becomes y, not ahead of it");
        due.is("to 50", 0, x.now(50, 3));
        due.is("the same year", 50, x.now(50, 2));
        due.is("the year ahead", BAD, x.now(49, 1));
        due.is("refused: the year", 50, x.count(4));
        due.is("refused: the season", 2, x.count(5));
        due.is("the next year", 50, x.now(51, 1));
        due.is("the season goes back", 1, x.count(5));
        due.of(7, "the YEAR that it was");
        due.is("to the last year", 51, x.now(99, 0));
        due.is("in the last year", 99, x.now(99, 3));
        due.is("behind the last year", BAD, x.now(100, 0));
        due.is("season 3", 3, x.count(5));
    }

    private static void placeOf() {
        WaysSung x = new WaysSung();
        due.of(8, "BAD: there is no such PLACE");
        due.is("no place at all", BAD, x.placeOf(0, 1));
        for (int p = 0; p < 12; p++) {
            x.place(9, 15);
            due.is("the next one", BAD, x.placeOf(p + 1, 1));
        }
        for (int p : Due.outside(0, 11)) {
            due.is("place " + p, BAD, x.placeOf(p, 1));
        }
        due.is("the last", 15, x.placeOf(11, 1));
        due.of(8, "0 HEIGHT .. 4 SONGS");
        for (int what : Due.outside(0, 4)) {
            due.is("what " + what, BAD, x.placeOf(0, what));
        }
        due.of(8, "SONGS that come by (bits)");
        due.is("none", 0, x.placeOf(11, 4));
        for (int song = 3; song >= 0; song--) {
            x.verse(song, 11, 0, 1, song);
            x.verse(song, 11, 0, 1, NONE);
        }
        due.is("all four", 15, x.placeOf(11, 4));
        due.is("none elsewhere", 0, x.placeOf(0, 4));
    }

    private static void waterOf() {
        due.of(8, "A PLACE HAS WATER, if it has it in THE SEASON");
        WaysSung x = new WaysSung();
        for (int s = 0; s < 4; s++) {
            x.place(0, 1 << s);
        }
        for (int s = 0; s < 4; s++) {
            x.now(0, s);
            for (int p = 0; p < 4; p++) {
                due.is("place " + p + " in season " + s, p == s ? 1 : 0, x.placeOf(p, 2));
                due.is("as told", 1 << p, x.placeOf(p, 1));
            }
        }
        due.of(8, "and is not DRY since THE YEAR or an earlier one");
        WaysSung y = new WaysSung();
        Due.rules(y, "dry 0 0;dry 1 1;dry 2 99;");
        for (int p = 0; p < 4; p++) {
            y.place(0, 15);
        }
        int[][] wet = {{0, 0, 1, 1, 1}, {1, 0, 0, 1, 1}, {98, 0, 0, 1, 1}, {99, 0, 0, 0, 1}};
        for (int[] year : wet) {
            y.now(year[0], 0);
            for (int p = 0; p < 4; p++) {
                due.is("place " + p + " in year " + year[0], year[p + 1], y.placeOf(p, 2));
            }
        }
        due.of(8, "the YEAR since when it is DRY (NONE)");
        int[] since = {0, 1, 99, NONE};
        for (int p = 0; p < 4; p++) {
            due.is("place " + p, since[p], y.placeOf(p, 3));
        }
        y.place(0, 0);
        Due.rules(y, "dry 4 7;");
        due.is("one that never had water", 7, y.placeOf(4, 3));
        due.is("one that is dry no more", NONE, y.placeOf(0, 3));
        due.is("one that has water again", 1, y.placeOf(0, 2));
    }

    private static void verseOf() {
        WaysSung x = new WaysSung();
        due.of(9, "BAD: there is no such VERSE");
        due.is("no verse at all", BAD, x.verseOf(0, 0));
        for (int p = 0; p < 12; p++) {
            x.place(0, 0);
        }
        for (int v = 0; v < 24; v++) {
            x.verse(v == 0 ? 0 : 1, v % 12, 0, 9, NONE);
        }
        for (int v : Due.outside(0, 23)) {
            due.is("verse " + v, BAD, x.verseOf(v, 0));
        }
        due.is("the last verse's place", 11, x.verseOf(23, 1));
        due.of(9, "0 SONG .. 6 HEADS");
        for (int what : Due.outside(0, 6)) {
            due.is("what " + what, BAD, x.verseOf(0, what));
        }
        due.of(9, "3 DAYS (0: the first of its SONG)");
        due.is("the first of song 0, told 9", 0, x.verseOf(0, 3));
        due.is("the first of song 1, told 9", 0, x.verseOf(1, 3));
        due.is("the second of song 1", 9, x.verseOf(2, 3));
        due.of(9, "4 KIN (NONE)");
        due.is("open", NONE, x.verseOf(0, 4));
        due.of(9, "5 its number in its SONG");
        due.is("the first", 0, x.verseOf(1, 5));
        due.is("the last", 22, x.verseOf(23, 5));
        due.of(9, "6 HEADS: living PEOPLE that HAVE it");
        due.is("nobody at all", 0, x.verseOf(23, 6));
        for (int i = 0; i < 8; i++) {
            x.one(0, 0, 0);
            x.has(i, 23, true);
        }
        due.is("all", 8, x.verseOf(23, 6));
        due.is("nobody", 0, x.verseOf(22, 6));
        x.dies(7);
        x.has(0, 23, false);
        due.is("less one who died, less one who has it no more", 6, x.verseOf(23, 6));
    }

    private static void oneOf() {
        WaysSung x = new WaysSung();
        due.of(10, "BAD: there is no such ONE");
        due.is("no one at all", BAD, x.oneOf(0, 0));
        x.now(40, 0);
        x.one(3, 99, 256);
        for (int who : Due.outside(0, 0)) {
            due.is("one " + who, BAD, x.oneOf(who, 0));
        }
        due.of(10, "0 KIN .. 3 VERSES");
        for (int what : Due.outside(0, 3)) {
            due.is("what " + what, BAD, x.oneOf(0, what));
        }
        due.is("tongues", 256, x.oneOf(0, 2));
        due.of(10, "AGE goes up with THE YEAR");
        due.is("in the year of coming", 99, x.oneOf(0, 1));
        x.now(40, 3);
        due.is("not with the season", 99, x.oneOf(0, 1));
        x.now(41, 0);
        due.is("a year on", 100, x.oneOf(0, 1));
        x.one(0, 0, 0);
        x.now(99, 0);
        due.is("the first, in the last year", 158, x.oneOf(0, 1));
        due.is("the second, in the last year", 58, x.oneOf(1, 1));
        due.of(10, "1 AGE (NONE: lives no more)");
        x.dies(0);
        due.is("the dead one", NONE, x.oneOf(0, 1));
        due.is("its kin", 3, x.oneOf(0, 0));
        due.is("the living one", 58, x.oneOf(1, 1));
        due.of(10, "3 VERSES that it HAS (bits)");
        x.place(0, 0);
        for (int v = 0; v < 24; v++) {
            x.verse(0, 0, 0, 1, NONE);
            x.has(1, v, true);
        }
        due.is("all", (1 << 24) - 1, x.oneOf(1, 3));
        due.is("none", 0, x.oneOf(0, 3));
    }
}

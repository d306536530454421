/** Promises 26 to 30, sentence by sentence: tunes, where a piece fits, songs sung faster, songs that cross. */
public final class TunesEdgesTest {
    private static final int BAD = -1, STATE = -2, NONE = -4;
    private static final Due due = new Due("TunesEdgesTest");

    public static void main(String[] args) {
        tune();
        tuneLong();
        whereBad();
        where();
        sureBad();
        sure();
        fasterBad();
        faster();
        crossBad();
        cross();
        crossPeople();
        due.close();
    }

    /** Places as high as their numbers are, 0 to 9; a song for each row of them. */
    private static WaysSung songs(int[]... rows) {
        WaysSung x = new WaysSung();
        for (int p = 0; p < 10; p++) {
            x.place(p, 0);
        }
        for (int s = 0; s < rows.length; s++) {
            for (int p : rows[s]) {
                x.verse(s, p, 0, 1, NONE);
            }
        }
        return x;
    }

    private static int[] level(int verses, int... last) {
        int[] row = new int[verses + last.length];
        System.arraycopy(last, 0, row, verses, last.length);
        return row;
    }

    private static void tune() {
        WaysSung x = songs(new int[] {}, new int[] {4}, new int[] {0, 9}, new int[] {9, 0});
        due.of(26, "BAD: there is no such SONG");
        for (int song : Due.outside(0, 3)) {
            due.is("song " + song, BAD, x.tune(song));
        }
        due.of(26, "for each VERSE but its last one, behind a 1");
        due.is("no verse", 1, x.tune(0));
        due.is("one verse", 1, x.tune(1));
        due.of(26, "1 up, 0 down, 2 level (HEIGHT of the next one's PLACE beside its own)");
        due.is("up", 3 + 1, x.tune(2));
        due.is("down", 3 + 0, x.tune(3));
        x = songs(new int[] {7, 7}, new int[] {4, 5}, new int[] {5, 4}, new int[] {1, 2, 2, 1});
        due.is("level", 3 + 2, x.tune(0));
        due.is("just up", 3 + 1, x.tune(1));
        due.is("just down", 3 + 0, x.tune(2));
        due.is("up, level, down: the first the highest", 27 + 9 + 6 + 0, x.tune(3));
        x = new WaysSung();
        x.place(5, 0);
        x.place(5, 0);
        x.verse(0, 0, 0, 1, NONE);
        x.verse(0, 1, 0, 1, NONE);
        due.is("two places of one height", 3 + 2, x.tune(0));
    }

    private static void tuneLong() {
        due.of(26, "SONGS of 17 VERSES at most; STATE: it has more");
        WaysSung x = songs(level(17));
        due.is("16 levels", 2 * 43046721 - 1, x.tune(0));
        x.verse(1, 0, 0, 1, NONE);
        due.is("another one's verse does not count", 2 * 43046721 - 1, x.tune(0));
        x.verse(0, 0, 0, 1, NONE);
        due.is("18 verses", STATE, x.tune(0));
        due.is("the other one", 1, x.tune(1));
        due.is("BAD is the first that fits", BAD, x.tune(4));
        x = songs(level(24));
        due.is("24 verses", STATE, x.tune(0));
        due.is("an empty one", 1, x.tune(3));
    }

    private static void whereBad() {
        WaysSung x = songs(level(24));
        due.of(27, "m steps (1 to 8)");
        for (int m : Due.outside(1, 8)) {
            due.is("m " + m, BAD, x.where(m, 0, 0));
        }
        due.of(27, "A PIECE: m steps as figures to the base 3");
        int most = 1;
        for (int m = 1; m <= 8; m++) {
            most *= 3;
            for (int piece : Due.outside(0, most - 1)) {
                due.is("m " + m + ", piece " + piece, BAD, x.where(m, piece, 0));
            }
            due.is("m " + m + ", all level", 24 - m, x.where(m, most - 1, 0));
            due.is("m " + m + ", all down", 0, x.where(m, 0, 0));
        }
        due.of(27, "what 0, 1, 2");
        for (int what : Due.outside(0, 2)) {
            due.is("what " + what, BAD, x.where(1, 0, what));
        }
        due.is("no verses", 0, new WaysSung().where(1, 0, 0));
        due.is("no verses, the least", NONE, new WaysSung().where(1, 0, 1));
        due.is("no verses, all", 0, new WaysSung().where(1, 0, 2));
    }

    private static void where() {
        WaysSung x = songs(new int[] {0, 1, 0, 0}, new int[] {}, new int[] {3, 2, 2}, new int[] {5});
        due.of(27, "(the first the highest)");
        due.is("up, down", 1, x.where(2, 3, 2));
        due.is("down, up", 0, x.where(2, 1, 2));
        due.of(27, "It FITS at a VERSE, if the m steps from it on are so: of every SONG");
        due.is("down, level: how many", 2, x.where(2, 2, 0));
        due.is("down, level: the least", 1, x.where(2, 2, 1));
        due.is("down, level: all", 2 | 16, x.where(2, 2, 2));
        due.of(27, "It FITS at a VERSE: not over the end of its SONG");
        due.is("level, from the last step of a song", 4 | 32, x.where(1, 2, 2));
        due.is("level, then down in the next song", 0, x.where(2, 6, 2));
        due.is("a whole song", 1, x.where(3, 9 + 2, 2));
        due.is("longer than any song", 0, x.where(4, 27 + 6, 0));
        due.of(27, "the least (1; NONE)");
        due.is("nowhere", NONE, x.where(2, 8, 1));
        due.is("nowhere, how many", 0, x.where(2, 8, 0));
        due.is("nowhere, all", 0, x.where(2, 8, 2));
        due.is("at the first", 0, x.where(1, 1, 1));
        WaysSung y = songs(level(23, 9));
        due.is("at the last but one", 22, y.where(1, 1, 1));
        due.is("at the last but one, all", 1 << 22, y.where(1, 1, 2));
        due.is("eight steps", 1 << 15, y.where(8, 6560 - 1, 2));
        WaysSung z = new WaysSung();
        for (int p = 0; p < 3; p++) {
            z.place(p, 0);
        }
        int[][] mixed = {{0, 0}, {1, 2}, {0, 1}, {1, 1}, {0, 2}, {1, 0}};
        for (int[] v : mixed) {
            z.verse(v[0], v[1], 0, 1, NONE);
        }
        due.of(27, "how many VERSES (what 0): two SONGS whose VERSES came by turns");
        due.is("up, up", 1, z.where(2, 4, 2));
        due.is("down, down", 2, z.where(2, 0, 2));
        due.is("up", 1 | 4, z.where(1, 1, 2));
    }

    private static void sureBad() {
        due.of(28, "BAD: there is no such VERSE");
        due.is("no verse at all", BAD, new WaysSung().sure(0));
        WaysSung x = songs(new int[] {0, 1});
        for (int verse : Due.outside(0, 1)) {
            due.is("verse " + verse, BAD, x.sure(verse));
        }
        due.of(28, "NONE: the SONG ends ahead");
        due.is("one verse alone in the land", NONE, songs(new int[] {3}).sure(0));
        due.is("the last", NONE, x.sure(1));
        due.is("one step is enough", 1, x.sure(0));
        x.verse(1, 0, 0, 1, NONE);
        due.is("a song of one verse", NONE, x.sure(2));
        x.verse(1, 5, 0, 1, NONE);
        due.is("alike to their ends", NONE, x.sure(0));
        due.is("alike to their ends", NONE, x.sure(2));
        x.verse(1, 0, 0, 1, NONE);
        due.is("the longer one is sure", 2, x.sure(2));
        due.is("the shorter one is not", NONE, x.sure(0));
    }

    private static void sure() {
        due.of(28, "the least m (1 to 8)");
        WaysSung x = songs(level(9, 5), level(8, 5));
        due.is("nine levels ahead of the end, eight of them level", NONE, songs(level(10), level(9)).sure(0));
        due.is("8 levels; the other one has 7", 8, x.sure(0));
        due.is("7 levels and up, as the other's from its first on", NONE, x.sure(1));
        due.is("7 levels and up, as the first song's from its second on", NONE, x.sure(10));
        due.of(28, "NONE: not with 8");
        WaysSung y = songs(level(10, 5), level(9, 6, 7));
        due.is("9 levels, 8 of them elsewhere, too", NONE, y.sure(0));
        due.is("8 levels and up, as elsewhere", NONE, y.sure(1));
        due.is("up alone fits elsewhere and the song ends", NONE, y.sure(9));
        due.is("up and up", 2, y.sure(19));
        due.is("up behind up", NONE, y.sure(20));
        due.is("level, up, up", 3, y.sure(18));
        due.is("6 levels, up, up", 8, y.sure(13));
        due.is("7 levels, up, up: nine steps", NONE, y.sure(12));
        due.of(28, "FITS nowhere else: in its own SONG, too");
        WaysSung z = songs(new int[] {0, 1, 0, 1, 1});
        due.is("up, down", 2, z.sure(0));
        due.is("down", 1, z.sure(1));
        due.is("up, level", 2, z.sure(2));
        due.is("level", 1, z.sure(3));
    }

    private static void fasterBad() {
        WaysSung x = songs(level(24));
        due.of(29, "BAD: there is no such SONG; k (2 to 4); what 0, 1");
        for (int song : Due.outside(0, 3)) {
            due.is("song " + song, BAD, x.faster(song, 2, 0));
        }
        for (int k : Due.outside(2, 4)) {
            due.is("k " + k, BAD, x.faster(0, k, 0));
        }
        for (int what : Due.outside(0, 1)) {
            due.is("what " + what, BAD, x.faster(0, 2, what));
        }
        due.of(29, "0 how many steps there are");
        int[][] steps = {{0, 0, 0}, {1, 0, 0}, {2, 0, 0}, {3, 1, 0}, {4, 1, 1}, {5, 2, 1}, {6, 2, 1}, {7, 3, 2}};
        for (int[] row : steps) {
            WaysSung y = songs(level(row[0]));
            due.is(row[0] + " verses by 2", row[1], y.faster(0, 2, 0));
            due.is(row[0] + " verses by 3", row[2], y.faster(0, 3, 0));
            due.is(row[0] + " verses by 2, level", row[1], y.faster(0, 2, 1));
            due.is(row[0] + " verses by 4", row[0] < 5 ? 0 : 1, y.faster(0, 4, 0));
        }
        due.is("24 verses by 2", 11, x.faster(0, 2, 0));
        due.is("24 verses by 3", 7, x.faster(0, 3, 0));
        due.is("24 verses by 4", 5, x.faster(0, 4, 0));
        due.is("an empty one", 0, x.faster(3, 2, 1));
    }

    private static void faster() {
        due.of(29, "of these steps those that go as TUNE does from the left one to the next VERSE of all");
        int[][] next = {{4, 5, 6}, {4, 5, 4}, {4, 5, 3}, {4, 4, 6}, {4, 4, 4}, {4, 4, 3}, {4, 3, 6}, {4, 3, 4}, {4, 3, 2}};
        int[] alike = {1, 0, 0, 0, 1, 0, 0, 0, 1};
        for (int i = 0; i < next.length; i++) {
            WaysSung x = songs(next[i]);
            due.is("one step, " + i, 1, x.faster(0, 2, 0));
            due.is("alike, " + i, alike[i], x.faster(0, 2, 1));
        }
        WaysSung y = songs(new int[] {1}, new int[] {4, 5, 0, 0, 6, 5, 9, 9, 3});
        due.of(29, "each k-th VERSE is sung from its first one on");
        due.is("by 4: 4 to 6 as 4 to 5, 6 to 3 as 6 to 5", 2, y.faster(1, 4, 1));
        due.is("by 3: 4 to 0, 0 to 9 as 0 to 6", 1, y.faster(1, 3, 1));
        due.is("by 2: 4 to 0, 0 to 6, 6 to 9, 9 to 3", 0, y.faster(1, 2, 1));
    }

    private static void crossBad() {
        WaysSung x = songs(new int[] {0}, new int[] {0}, new int[] {0}, new int[] {0});
        due.of(30, "BAD: there is no such SONG; what 0, 1");
        for (int song : Due.outside(0, 3)) {
            due.is("one " + song, BAD, x.cross(song, 0, 0));
            due.is("other " + song, BAD, x.cross(0, song, 0));
            due.is("both " + song, BAD, x.cross(song, song, 1));
        }
        for (int what : Due.outside(0, 1)) {
            due.is("what " + what, BAD, x.cross(0, 1, what));
        }
        due.of(30, "two SONGS (unlike)");
        for (int song = 0; song < 4; song++) {
            due.is("alike " + song, BAD, x.cross(song, song, 0));
            due.is("alike " + song, BAD, x.cross(song, song, 1));
            due.is("unlike " + song, 1, x.cross(song, 3 - song, 0));
        }
    }

    private static void cross() {
        due.of(30, "PLACES at which two SONGS cross (bits)");
        WaysSung x = songs(new int[] {0, 9, 4, 9}, new int[] {9, 0, 9}, new int[] {3});
        due.is("the first and the last", 1 | 512, x.cross(0, 1, 0));
        due.is("the other way round", 1 | 512, x.cross(1, 0, 0));
        due.is("none", 0, x.cross(0, 2, 0));
        due.is("with an empty one", 0, x.cross(0, 3, 0));
        due.is("an empty one", 0, x.cross(3, 1, 0));
        x.place(4, 0);
        x.place(0, 0);
        x.verse(3, 11, 0, 1, NONE);
        due.is("a place as high is not the same", 0, x.cross(3, 0, 0));
        x.verse(2, 11, 0, 1, 7);
        due.is("verses that are held cross, too", 1 << 11, x.cross(3, 2, 0));
    }

    private static void crossPeople() {
        due.of(30, "living PEOPLE who may SING a VERSE of the one or of the other one at some such PLACE");
        WaysSung x = songs(new int[] {0, 1}, new int[] {2, 0}, new int[] {0}, new int[] {5});
        for (int i = 0; i < 8; i++) {
            x.one(i, i == 6 ? 11 : 12, 0);
        }
        due.is("none has any", 0, x.cross(0, 1, 1));
        int[] has = {0, 1, 2, 3, 4, 5, 0, 3};
        for (int i = 0; i < 8; i++) {
            x.has(i, has[i], true);
        }
        due.is("0 by song 0, 3 and 7 by song 1; 6 is too young", 1 | 8 | 128, x.cross(0, 1, 1));
        due.is("the other way round", 1 | 8 | 128, x.cross(1, 0, 1));
        due.is("with song 2", 1 | 16, x.cross(0, 2, 1));
        due.is("songs that do not cross", 0, x.cross(0, 3, 1));
        x.dies(7);
        due.is("one died", 1 | 8, x.cross(0, 1, 1));
        x.verse(3, 0, 0, 1, 4);
        x.has(5, 6, true);
        x.has(4, 6, true);
        due.is("kin 5 may not sing what kin 4 holds", 1 | 16, x.cross(0, 3, 1));
    }
}

/** Promises 31 to 35, sentence by sentence: what few have, teaching, keeping, maps for a court. */
public final class KeepingEdgesTest {
    private static final int BAD = -1, STATE = -2, NONE = -4;
    private static final Due due = new Due("KeepingEdgesTest");

    public static void main(String[] args) {
        soon();
        soonFewest();
        lessonsThatAreNot();
        teachers();
        pupils();
        tongues();
        teach();
        keepBad();
        keepTeachers();
        keepLone();
        mapBad();
        map();
        mapLeast();
        due.close();
    }

    /** One place and so many open verses of song 0, in tongue 0. */
    private static WaysSung land(int verses) {
        WaysSung x = new WaysSung();
        x.place(0, 0);
        for (int v = 0; v < verses; v++) {
            x.verse(0, 0, 0, 1, NONE);
        }
        return x;
    }

    private static void people(WaysSung x, int n) {
        for (int i = 0; i < n; i++) {
            x.one(0, 50, 1);
        }
    }

    private static void soon() {
        WaysSung x = new WaysSung();
        due.of(31, "NONE (0, 1): no VERSES");
        due.is("the verse", NONE, x.soon(0));
        due.is("its heads", NONE, x.soon(1));
        due.is("none without", 0, x.soon(2));
        due.of(31, "BAD: what 0, 1, 2");
        for (int what : Due.outside(0, 2)) {
            due.is("what " + what, BAD, x.soon(what));
            due.is("what " + what, BAD, land(1).soon(what));
        }
        due.of(31, "how many VERSES have none (2)");
        x = land(24);
        due.is("nobody at all", 24, x.soon(2));
        people(x, 2);
        due.is("none has any", 24, x.soon(2));
        x.has(0, 0, true);
        x.has(1, 0, true);
        x.has(1, 23, true);
        due.is("two have heads", 22, x.soon(2));
        x.dies(1);
        due.is("one of them died", 23, x.soon(2));
        for (int v = 0; v < 24; v++) {
            x.has(0, v, true);
        }
        due.is("all have one", 0, x.soon(2));
    }

    private static void soonFewest() {
        WaysSung x = land(24);
        due.of(31, "The VERSE with the fewest HEADS, of several the least (what 0), these (1)");
        due.is("nobody at all", 0, x.soon(0));
        due.is("no heads", 0, x.soon(1));
        people(x, 8);
        for (int v = 0; v < 24; v++) {
            for (int i = 0; i < 8; i++) {
                x.has(i, v, true);
            }
        }
        due.is("all have all", 0, x.soon(0));
        due.is("eight heads", 8, x.soon(1));
        x.has(7, 23, false);
        due.is("the last", 23, x.soon(0));
        due.is("seven heads", 7, x.soon(1));
        x.has(3, 11, false);
        due.is("of two the least", 11, x.soon(0));
        due.is("seven heads", 7, x.soon(1));
        x.has(0, 23, false);
        due.is("the fewest ahead of the least", 23, x.soon(0));
        due.is("six heads", 6, x.soon(1));
        x.dies(1);
        due.is("one died", 5, x.soon(1));
        x.dies(7);
        due.is("one of those without it died: 11 and 23 are alike", 11, x.soon(0));
        due.is("five heads", 5, x.soon(1));
    }

    /** Verse 0 of kin 1 in tongue 8. 0 and 1 are of kin 1, 2 of kin 2; all know tongue 8; 0 has it. */
    private static WaysSung lesson(int age) {
        WaysSung x = new WaysSung();
        x.place(0, 0);
        x.verse(0, 0, 8, 1, 1);
        x.one(1, age, 256);
        x.one(1, 0, 256);
        x.one(2, 99, 256);
        x.has(0, 0, true);
        return x;
    }

    private static void lessonsThatAreNot() {
        WaysSung x = lesson(20);
        due.of(32, "BAD: there is no such ONE, VERSE");
        for (int who : Due.outside(0, 2)) {
            due.is("who " + who, BAD, x.can(who, 1, 0));
            due.is("whom " + who, BAD, x.can(0, who, 0));
        }
        for (int verse : Due.outside(0, 0)) {
            due.is("verse " + verse, BAD, x.can(0, 1, verse));
        }
        due.of(32, "BAD: also one and the same");
        for (int who = 0; who < 3; who++) {
            due.is("one and the same " + who, BAD, x.can(who, who, 0));
        }
        due.is("unlike", 1, x.can(0, 1, 0));
        due.of(33, "BAD; STATE: it can not be");
        for (int who : Due.outside(0, 2)) {
            due.is("who " + who, BAD, x.teach(who, 1, 0));
            due.is("whom " + who, BAD, x.teach(0, who, 0));
        }
        for (int verse : Due.outside(0, 0)) {
            due.is("verse " + verse, BAD, x.teach(0, 1, verse));
        }
        due.is("one and the same", BAD, x.teach(0, 0, 0));
        due.is("one and the same who lives no more", BAD, dead(x, 2).teach(2, 2, 0));
        due.is("refused: has it not", 0, x.oneOf(1, 3));
    }

    private static WaysSung dead(WaysSung x, int who) {
        x.dies(who);
        return x;
    }

    /** can says so, and teach does so, or neither. */
    private static void taught(String call, boolean is, WaysSung x, int who, int whom) {
        int heads = x.verseOf(0, 6);
        int had = x.oneOf(whom, 3);
        due.is(call + ", can", is ? 1 : 0, x.can(who, whom, 0));
        due.is(call + ", teach", is ? heads + 1 : STATE, x.teach(who, whom, 0));
        due.is(call + ", has", is ? 1 : had, x.oneOf(whom, 3));
        due.is(call + ", heads", is ? heads + 1 : heads, x.verseOf(0, 6));
    }

    private static WaysSung told(WaysSung x, String rules) {
        Due.rules(x, rules);
        return x;
    }

    private static void teachers() {
        due.of(32, "TEACHING: one who may SING a VERSE");
        taught("who may", true, lesson(20), 0, 1);
        WaysSung x = lesson(20);
        x.has(0, 0, false);
        taught("who has it not", false, x, 0, 1);
        taught("who lives no more", false, dead(lesson(20), 0), 0, 1);
        taught("too young to sing", false, told(lesson(20), "sing 21;"), 0, 1);
        taught("just old enough to sing", true, told(lesson(21), "sing 21;"), 0, 1);
        x = told(lesson(20), "hear 1 2;");
        x.has(2, 0, true);
        taught("who may only hear it", false, x, 2, 1);
        due.of(32, "and is of the AGE to tell it: from that AGE on one may teach (0 to 99; 20)");
        taught("at 19", false, lesson(19), 0, 1);
        x = lesson(19);
        x.now(1, 0);
        taught("at 20, a year on", true, x, 0, 1);
        taught("at 98 of 99", false, told(lesson(98), "tell 99;"), 0, 1);
        taught("at 99 of 99", true, told(lesson(99), "tell 99;"), 0, 1);
        taught("at 12 of 0", true, told(lesson(12), "tell 0;"), 0, 1);
        taught("at 0 of 0 and 0", true, told(lesson(0), "tell 0;sing 0;"), 0, 1);
    }

    private static void pupils() {
        due.of(32, "another one living");
        taught("who lives no more", false, dead(lesson(20), 1), 0, 1);
        taught("of any age", true, lesson(20), 0, 1);
        due.of(32, "who may HEAR it");
        taught("of another kin", false, lesson(20), 0, 2);
        taught("of a kin that may hear it", true, told(lesson(20), "hear 1 2;"), 0, 2);
        taught("not the other way round", false, told(lesson(20), "hear 2 1;"), 0, 2);
        due.of(32, "HAS it not");
        WaysSung x = lesson(20);
        x.has(1, 0, true);
        taught("who has it", false, x, 0, 1);
        x.has(1, 0, false);
        taught("who has it no more", true, x, 0, 1);
    }

    private static void tongues() {
        due.of(32, "with a TONGUE of both that is the VERSE's");
        int[][] both = {{256, 256, 1}, {511, 511, 1}, {255, 256, 0}, {256, 255, 0}, {255, 255, 0}, {0, 0, 0}, {257, 256, 1}};
        for (int[] row : both) {
            WaysSung x = new WaysSung();
            x.place(0, 0);
            x.verse(0, 0, 8, 1, NONE);
            x.one(0, 50, row[0]);
            x.one(0, 50, row[1]);
            x.has(0, 0, true);
            taught("tongue 8 of " + row[0] + " and " + row[1], row[2] == 1, x, 0, 1);
        }
        WaysSung x = land(1);
        x.one(0, 50, 1);
        x.one(0, 50, 510);
        x.has(0, 0, true);
        taught("tongue 0", false, x, 0, 1);
    }

    private static void teach() {
        due.of(33, "A VERSE is taught: HEADS then");
        WaysSung x = land(24);
        people(x, 8);
        x.has(0, 23, true);
        for (int i = 1; i < 8; i++) {
            due.is("to " + i, i + 1, x.teach(0, i, 23));
        }
        due.is("that verse alone", 1 << 23, x.oneOf(7, 3));
        x.has(0, 5, true);
        x.has(1, 4, true);
        due.is("one who has others", 2, x.teach(0, 1, 5));
        due.is("keeps them", 1 << 23 | 1 << 5 | 1 << 4, x.oneOf(1, 3));
        due.of(33, "STATE: it can not be: HAS it by teaching");
        due.is("again", STATE, x.teach(0, 7, 23));
        due.is("heads", 8, x.verseOf(23, 6));
        x.dies(1);
        x.has(2, 23, false);
        due.is("the dead do not count", 7, x.teach(3, 2, 23));
    }

    private static void keepBad() {
        due.of(34, "KEEP in Y years (1 to 9)");
        WaysSung x = land(24);
        for (int years : Due.outside(1, 9)) {
            due.is("years " + years, BAD, x.keep(years));
        }
        due.is("nobody at all", 0, x.keep(9));
        due.is("nothing at all", 0, new WaysSung().keep(1));
        people(x, 1);
        for (int v = 0; v < 24; v++) {
            x.has(0, v, true);
        }
        due.is("nobody to learn", 0, x.keep(9));
        people(x, 1);
        due.of(34, "each one teaching one VERSE to one a year at most");
        for (int years = 1; years <= 9; years++) {
            due.is("24 verses in years " + years, years, x.keep(years));
        }
        WaysSung y = land(2);
        people(y, 2);
        y.has(0, 0, true);
        y.has(0, 1, true);
        due.is("two in a year", 1, y.keep(1));
        due.is("two in two years", 2, y.keep(2));
        due.is("two in three years", 2, y.keep(3));
    }

    private static void keepTeachers() {
        due.of(34, "each one teaching: several in the same year");
        WaysSung x = land(24);
        people(x, 8);
        for (int v = 0; v < 24; v++) {
            x.has(v % 8, v, true);
        }
        due.is("eight a year", 8, x.keep(1));
        due.is("sixteen in two", 16, x.keep(2));
        due.is("all in three", 24, x.keep(3));
        due.is("no more in nine", 24, x.keep(9));
        WaysSung y = land(10);
        people(y, 3);
        for (int v = 0; v < 9; v++) {
            y.has(0, v, true);
        }
        y.has(1, 9, true);
        due.is("a year of one can not be another one's", 4, y.keep(3));
        due.of(34, "keep changes nothing");
        due.is("heads as they were", 1, y.verseOf(0, 6));
        due.is("again", 4, y.keep(3));
    }

    private static void keepLone() {
        due.of(34, "VERSES of one HEAD that can get a second one");
        WaysSung x = land(3);
        people(x, 3);
        due.is("no head", 0, x.keep(9));
        x.has(0, 0, true);
        due.is("one head", 1, x.keep(9));
        x.has(1, 0, true);
        due.is("two heads", 0, x.keep(9));
        x.dies(1);
        due.is("one of the two died", 1, x.keep(9));
        x.dies(2);
        due.is("nobody else lives", 0, x.keep(9));
        WaysSung z = land(1);
        people(z, 2);
        z.has(1, 0, true);
        due.is("the first of the people can learn", 1, z.keep(1));
        z = land(1);
        people(z, 1);
        for (int i = 1; i < 8; i++) {
            z.one(0, 50, 2);
        }
        z.has(0, 0, true);
        due.is("none of seven others can learn", 0, z.keep(9));
        z = land(1);
        for (int i = 1; i < 8; i++) {
            z.one(0, 50, 2);
        }
        people(z, 1);
        z.has(7, 0, true);
        due.is("the last of the people has it, none can learn", 0, z.keep(9));
        WaysSung y = new WaysSung();
        y.place(0, 0);
        y.verse(0, 0, 0, 1, 3);
        y.one(3, 50, 1);
        y.one(4, 50, 1);
        y.one(3, 50, 2);
        y.has(0, 0, true);
        due.is("one may not hear it, one has not the tongue", 0, y.keep(9));
        Due.rules(y, "hear 3 4;");
        due.is("one may hear it", 1, y.keep(9));
        Due.rules(y, "hear 3 4;tell 51;");
        due.is("too young to tell", 0, y.keep(9));
        due.of(34, "(AGES as they are now)");
        y.now(1, 0);
        due.is("old enough now", 1, y.keep(1));
        Due.rules(y, "hear 3 4;tell 52;");
        due.is("old enough next year, not now", 0, y.keep(9));
        Due.rules(y, "hear 3 4;sing 52;");
        due.is("may not sing now", 0, y.keep(9));
    }

    private static void mapBad() {
        WaysSung x = land(1);
        due.of(35, "each SONG told (bits; 1 at least)");
        for (int songs : Due.outside(1, 15)) {
            due.is("songs " + songs, BAD, x.map(songs, 0));
            due.is("songs " + songs, BAD, x.map(songs, 1));
        }
        due.of(35, "BAD: what 0, 1");
        for (int what : Due.outside(0, 1)) {
            due.is("what " + what, BAD, x.map(1, what));
            due.is("what " + what + " ahead of NONE", BAD, x.map(2, what));
        }
        due.of(35, "NONE: a SONG has none");
        for (int songs = 1; songs < 16; songs++) {
            due.is("nothing at all", NONE, new WaysSung().map(songs, 0));
            due.is("of song 0 alone", songs == 1 ? 1 : NONE, x.map(songs, 0));
            due.is("of song 0 alone", songs == 1 ? 1 : NONE, x.map(songs, 1));
        }
        WaysSung y = new WaysSung();
        y.place(0, 0);
        y.verse(0, 0, 0, 1, 0);
        due.is("held by kin 0", NONE, y.map(1, 0));
        y.verse(0, 0, 0, 1, 7);
        due.is("held by kin 7", NONE, y.map(1, 1));
        y.verse(0, 0, 0, 1, NONE);
        due.is("one that is open", 1, y.map(1, 1));
    }

    private static WaysSung marks(int[]... at) {
        WaysSung x = new WaysSung();
        for (int p = 0; p < 12; p++) {
            x.place(0, 0);
        }
        for (int s = 0; s < at.length; s++) {
            for (int p : at[s]) {
                x.verse(s, p, 0, 1, NONE);
            }
        }
        return x;
    }

    private static void map() {
        due.of(35, "the fewest PLACES so that each SONG told has an OPEN VERSE at one of them: how many (what 0)");
        WaysSung x = marks(new int[] {0, 4}, new int[] {1, 4}, new int[] {2, 4}, new int[] {3, 11});
        due.is("song 3", 1, x.map(8, 0));
        due.is("three at one place", 1, x.map(7, 0));
        due.is("all", 2, x.map(15, 0));
        x = marks(new int[] {8}, new int[] {9}, new int[] {10}, new int[] {11});
        due.is("four songs at four places", 4, x.map(15, 0));
        due.is("four songs at four places", 0xf00, x.map(15, 1));
        due.is("the last alone", 1, x.map(8, 0));
        due.is("the last alone", 0x800, x.map(8, 1));
        due.of(35, "an OPEN VERSE");
        x.verse(0, 11, 0, 1, 5);
        due.is("a held one at a better place does not count", 2, x.map(9, 0));
    }

    private static void mapLeast() {
        due.of(35, "the least bits (1)");
        WaysSung x = marks(new int[] {5, 3, 11}, new int[] {3, 5}, new int[] {11, 0}, new int[] {0, 1, 2});
        due.is("of three places of song 0", 1 << 3, x.map(1, 1));
        due.is("of two places of both", 1 << 3, x.map(3, 1));
        due.is("the fewest ahead of the least", 1 << 11, x.map(5, 1));
        due.is("one mark for two", 1, x.map(12, 1));
        due.is("two marks for all", 2, x.map(15, 0));
        due.is("two marks for all", 1 | 1 << 3, x.map(15, 1));
        x = marks(new int[] {0, 2}, new int[] {1, 2}, new int[] {3, 4}, new int[] {4, 5});
        due.is("0 and 1 are less, but two", 1 << 2, x.map(3, 1));
        due.is("2 and 4", 1 << 2 | 1 << 4, x.map(15, 1));
        x = marks(new int[] {0, 1, 2, 3, 4, 5}, new int[] {0, 1, 2, 3, 4, 5}, new int[] {6, 7, 8, 9, 10, 11},
            new int[] {6, 7, 8, 9, 10, 11});
        due.is("24 verses", 1 | 1 << 6, x.map(15, 1));
    }
}

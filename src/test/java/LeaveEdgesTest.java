/** Promises 16 to 19, sentence by sentence: who may hear and sing what, what is led, who must agree. */
public final class LeaveEdgesTest {
    private static final int BAD = -1, NONE = -4;
    private static final int ALL = (1 << 24) - 1;
    private static final Due due = new Due("LeaveEdgesTest");

    public static void main(String[] args) {
        bad();
        hear();
        sing();
        asks();
        asksFirst();
        led();
        pairs();
        need();
        due.close();
    }

    /** 24 verses of song 0 at 12 places, verse v held by kin v % 8, or open from verse 16 on. */
    private static WaysSung land() {
        WaysSung x = new WaysSung();
        for (int p = 0; p < 12; p++) {
            x.place(0, 15);
        }
        for (int v = 0; v < 24; v++) {
            x.verse(0, v % 12, v % 9, 1, v < 16 ? v % 8 : NONE);
        }
        return x;
    }

    private static void bad() {
        due.of(16, "BAD: there is no such ONE");
        WaysSung x = new WaysSung();
        due.is("no one at all", BAD, x.may(0, 0));
        x.one(0, 0, 0);
        for (int who : Due.outside(0, 0)) {
            due.is("to hear, one " + who, BAD, x.may(who, 0));
            due.is("to sing, one " + who, BAD, x.may(who, 1));
        }
        due.is("no verse to hear", 0, x.may(0, 0));
        due.is("no verse to sing", 0, x.may(0, 1));
        due.of(16, "what 0, 1");
        for (int what : Due.outside(0, 1)) {
            due.is("what " + what, BAD, x.may(0, what));
        }
    }

    private static void hear() {
        WaysSung x = land();
        x.one(0, 0, 0);
        x.one(7, 99, 511);
        due.of(16, "One may HEAR a VERSE: it is OPEN, or HELD by one's KIN");
        due.is("kin 0", 0xff0000 | 1 << 0 | 1 << 8, x.may(0, 0));
        due.is("kin 7", 0xff0000 | 1 << 7 | 1 << 15, x.may(1, 0));
        due.of(16, "or by a KIN that one's KIN may hear");
        Due.rules(x, "hear 7 0;");
        due.is("kin 0 hears kin 7's", 0xff0000 | 0x8181, x.may(0, 0));
        due.is("kin 7 does not hear kin 0's", 0xff0000 | 0x8080, x.may(1, 0));
        Due.rules(x, "hear 7 7;hear 3 1;hear 1 0;");
        due.is("nothing by way of a third kin", 0xff0000 | 0x0303, x.may(0, 0));
        due.is("its own kin told too", 0xff0000 | 0x8080, x.may(1, 0));
        StringBuilder all = new StringBuilder();
        for (int k = 0; k < 8; k++) {
            all.append("hear ").append(k).append(" 0;");
        }
        Due.rules(x, all.toString());
        due.is("all", ALL, x.may(0, 0));
        x.dies(0);
        due.is("who lives no more", ALL, x.may(0, 0));
    }

    private static void sing() {
        WaysSung x = land();
        x.one(7, 12, 0);
        x.one(7, 11, 0);
        for (int v = 0; v < 24; v++) {
            x.has(0, v, true);
            x.has(1, v, true);
        }
        due.of(16, "One may SING it: it is OPEN or HELD by one's KIN");
        due.is("of all that one has", 0xff8080, x.may(0, 1));
        Due.rules(x, "hear 0 7;");
        due.is("to hear is not to sing", 0xff8080, x.may(0, 1));
        due.of(16, "and one HAS it");
        x.has(0, 7, false);
        x.has(0, 23, false);
        due.is("less two", 0x7f8000, x.may(0, 1));
        due.of(16, "and is of the AGE: from that AGE on one may sing (12)");
        due.is("at 12", 0x7f8000, x.may(0, 1));
        due.is("at 11", 0, x.may(1, 1));
        x.now(1, 0);
        due.is("at 12, a year on", 0xff8080, x.may(1, 1));
        due.of(16, "from that AGE on one may sing (0 to 99)");
        Due.rules(x, "sing 99;");
        x.one(7, 98, 0);
        x.has(2, 16, true);
        due.is("at 98", 0, x.may(2, 1));
        x.now(2, 0);
        due.is("at 99", 1 << 16, x.may(2, 1));
        x.now(3, 0);
        due.is("at 100", 1 << 16, x.may(2, 1));
        Due.rules(x, "sing 0;");
        x.one(7, 0, 0);
        x.has(3, 16, true);
        due.is("at 0", 1 << 16, x.may(3, 1));
        Due.rules(x, "sing 0;tell 99;");
        due.is("the age to tell is not asked for", 1 << 16, x.may(3, 1));
        due.of(16, "and one lives");
        x.dies(3);
        due.is("who died", 0, x.may(3, 1));
        due.is("another one", 1 << 16, x.may(2, 1));
    }

    private static void asks() {
        due.of(17, "BAD: there is no such ONE, SONG");
        WaysSung x = new WaysSung();
        due.is("no one at all", BAD, x.asks(0, 0, 0));
        x = land();
        x.one(1, 5, 1 | 4);
        for (int who : Due.outside(0, 0)) {
            due.is("one " + who, BAD, x.asks(who, 0, 0));
        }
        for (int song : Due.outside(0, 3)) {
            due.is("song " + song, BAD, x.asks(0, song, 0));
        }
        due.of(17, "what 0 to 3");
        for (int what : Due.outside(0, 3)) {
            due.is("what " + what, BAD, x.asks(0, 0, what));
        }
        due.of(17, "What ONE who asks is told of a SONG: an empty one");
        int[] empty = {0, 0, 0, NONE};
        for (int what = 0; what < 4; what++) {
            due.is("what " + what, empty[what], x.asks(0, 3, what));
        }
        due.of(17, "0 its VERSES that it may HEAR (bits), 1 how many others it has");
        due.is("heard", 0xff0202, x.asks(0, 0, 0));
        due.is("others", 14, x.asks(0, 0, 1));
        StringBuilder all = new StringBuilder();
        for (int k = 0; k < 8; k++) {
            all.append("hear ").append(k).append(" 1;");
        }
        Due.rules(x, all.toString());
        due.is("all heard", ALL, x.asks(0, 0, 0));
        due.is("no others", 0, x.asks(0, 0, 1));
        x.dies(0);
        due.is("one who lives no more", ALL, x.asks(0, 0, 0));
    }

    private static void asksFirst() {
        WaysSung x = new WaysSung();
        for (int p = 0; p < 12; p++) {
            x.place(0, 0);
        }
        x.verse(1, 11, 0, 1, NONE);
        x.verse(0, 0, 0, 1, 5);
        x.verse(0, 11, 8, 1, NONE);
        x.verse(0, 11, 8, 1, NONE);
        x.verse(0, 4, 7, 1, NONE);
        x.one(0, 0, 1);
        x.one(0, 0, 256);
        x.one(0, 0, 511);
        x.one(0, 0, 0);
        due.of(17, "2 PLACES of the former (bits)");
        due.is("twice at one place, not at one that is not heard", 1 << 11 | 1 << 4, x.asks(0, 0, 2));
        due.is("another song", 1 << 11, x.asks(0, 1, 2));
        due.of(17, "3 the first VERSE of these whose TONGUE it has not (NONE)");
        due.is("tongue 0", 2, x.asks(0, 0, 3));
        due.is("tongue 8", 4, x.asks(1, 0, 3));
        due.is("all tongues", NONE, x.asks(2, 0, 3));
        due.is("no tongue, and verse 1 is not heard", 2, x.asks(3, 0, 3));
        due.is("of song 1, tongue 8", 0, x.asks(1, 1, 3));
        due.is("of song 1, tongue 0", NONE, x.asks(0, 1, 3));
    }

    private static void led() {
        WaysSung x = land();
        due.of(18, "BAD: there is no such ONE in the set");
        due.is("nobody of nobody", 0, x.led(0));
        due.is("somebody of nobody", BAD, x.led(1));
        for (int i = 0; i < 8; i++) {
            x.one(i, 12, 0);
            due.is("the next one is not there", BAD, x.led(2 << i));
        }
        for (int set : Due.outside(0, 255)) {
            due.is("set " + set, BAD, x.led(set));
        }
        due.is("a bit far above", BAD, x.led(1 << 30 | 1));
        due.of(18, "It is LED by a set of PEOPLE: one of them may SING it");
        due.is("none has any", 0, x.led(255));
        for (int v = 0; v < 24; v++) {
            for (int i = 0; i < 8; i++) {
                x.has(i, v, v < 16 || i == 7);
            }
        }
        due.is("all by all", ALL, x.led(255));
        due.is("nobody", 0, x.led(0));
        due.is("the first alone", 0x0101, x.led(1));
        due.is("the last alone", 0xff8080, x.led(128));
        due.is("the two", 0xff8181, x.led(129));
        due.is("without the last", 0x7f7f, x.led(127));
        Due.rules(x, "sing 13;");
        due.is("none of the age", 0, x.led(255));
        x.now(1, 0);
        x.dies(7);
        due.is("one who lives no more may be named, and leads none", 0x7f7f, x.led(255));
    }

    private static void pairs() {
        WaysSung x = land();
        x.one(0, 50, 0);
        x.one(0, 50, 0);
        x.has(0, 16, true);
        x.has(0, 17, true);
        x.has(1, 18, true);
        x.has(1, 23, true);
        due.of(18, "and for each pair that it is in, one of them the other VERSE");
        Due.rules(x, "pair 16 23;");
        due.is("half of it", 1 << 17, x.led(1));
        due.is("the other half", 1 << 18, x.led(2));
        due.is("both", 0x870000, x.led(3));
        Due.rules(x, "pair 16 17;pair 16 18;");
        due.is("one of two pairs is wanting", 1 << 17, x.led(1));
        due.is("two pairs", 0x870000, x.led(3));
        Due.rules(x, "pair 16 0;pair 16 17;");
        due.is("17 is led, as 16 may be sung, though 16 is not led", 1 << 17 | 1 << 18 | 1 << 23, x.led(3));
        WaysSung y = new WaysSung();
        y.place(0, 0);
        y.verse(0, 0, 0, 1, NONE);
        y.one(0, 50, 0);
        y.has(0, 0, true);
        Due.rules(y, "pair 0 1;");
        due.is("a verse that has not come", 0, y.led(1));
        y.verse(0, 0, 0, 1, NONE);
        due.is("it has come", 0, y.led(1));
        y.has(0, 1, true);
        due.is("and is sung", 3, y.led(1));
    }

    private static void need() {
        WaysSung x = new WaysSung();
        due.of(19, "BAD: there is no such SONG");
        for (int song : Due.outside(0, 3)) {
            due.is("song " + song, BAD, x.need(song));
        }
        due.of(19, "KINS that must agree so that all of a SONG can be sung (bits)");
        for (int song = 0; song < 4; song++) {
            due.is("an empty song", 0, x.need(song));
        }
        x.place(0, 0);
        for (int v = 0; v < 9; v++) {
            x.verse(0, 0, 0, 1, v < 8 ? v : 7);
        }
        x.verse(3, 0, 0, 1, NONE);
        x.verse(2, 0, 0, 1, 7);
        x.verse(2, 0, 0, 1, NONE);
        x.verse(1, 0, 0, 1, 0);
        due.is("all kins", 255, x.need(0));
        due.is("the first kin", 1, x.need(1));
        due.is("the last kin", 128, x.need(2));
        due.is("an open song", 0, x.need(3));
        due.of(19, "pairs, too");
        Due.rules(x, "pair 9 10;pair 12 23;");
        due.is("of the one", 128, x.need(3));
        due.is("of the other, which pairs with an open one", 128, x.need(2));
        due.is("with a verse that has not come", 1, x.need(1));
        Due.rules(x, "pair 12 9;pair 9 3;");
        due.is("two pairs", 1 | 8, x.need(3));
        due.is("a pair of a pair is not in it", 1, x.need(1));
        WaysSung y = new WaysSung();
        y.place(0, 0);
        for (int v = 0; v < 24; v++) {
            y.verse(v < 2 ? 0 : v > 21 ? 1 : 2, 0, 0, 1, v < 2 || v > 21 ? NONE : v % 8);
        }
        Due.rules(y, "pair 0 2;pair 1 3;pair 22 4;pair 5 23;pair 0 1;");
        due.is("each of its verses in a pair, the first, too", 1 << 2 | 1 << 3, y.need(0));
        due.is("each of its verses in a pair, the last, too", 1 << 4 | 1 << 5, y.need(1));
    }
}

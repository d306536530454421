/** Promises 36 to 40, sentence by sentence: sheets, what is read from them and its faults, counts. */
public final class SheetsEdgesTest {
    private static final int BAD = -1, STATE = -2, NONE = -4;
    private static final int ALL = (1 << 24) - 1;
    private static final Due due = new Due("SheetsEdgesTest");

    public static void main(String[] args) {
        sheet();
        sheetNew();
        sheetRefused();
        lay();
        layBits();
        readBad();
        readMany();
        readNoVerse();
        readRefused();
        readFirstMet();
        torn();
        tornStays();
        count();
        due.close();
    }

    /** So many verses that kin 7 holds; two of kin 0 who speak no tongue. */
    private static WaysSung land(int verses) {
        WaysSung x = new WaysSung();
        x.place(0, 0);
        for (int v = 0; v < verses; v++) {
            x.verse(0, 0, 0, 1, 7);
        }
        x.one(0, 0, 0);
        x.one(0, 0, 0);
        return x;
    }

    /** A sheet with these cells. */
    private static void sheet(WaysSung x, int k, int lane, int... cells) {
        x.sheet(k, lane, cells.length);
        for (int i = 0; i < cells.length; i++) {
            x.lay(k, i, cells[i]);
        }
    }

    private static void sheet() {
        WaysSung x = new WaysSung();
        due.of(36, "SHEETS 0 to 3");
        for (int k : Due.outside(0, 3)) {
            due.is("sheet " + k, BAD, x.sheet(k, 0, 1));
        }
        for (int k = 0; k < 4; k++) {
            due.is("sheet " + k, 1, x.sheet(k, 0, 1));
        }
        due.of(36, "BYTES (lane 0), SHORTS (1), INTS (2)");
        for (int lane : Due.outside(0, 2)) {
            due.is("lane " + lane, BAD, x.sheet(0, lane, 1));
        }
        for (int lane = 0; lane < 3; lane++) {
            due.is("lane " + lane, 1, x.sheet(0, lane, 1));
        }
        due.of(36, "with 0 to 40 CELLS; BAD: also n above 40");
        for (int lane = 0; lane < 3; lane++) {
            due.is("no cells", 1, x.sheet(0, lane, 0));
            due.is("no cells", 0, x.count(7));
            due.is("40 cells", 1, x.sheet(0, lane, 40));
            due.is("40 cells", 40, x.count(7));
            due.is("41 cells", BAD, x.sheet(0, lane, 41));
            due.is("very many cells", BAD, x.sheet(0, lane, Integer.MAX_VALUE));
        }
        due.of(36, "-10 - 4: SIZE (below 0)");
        for (int lane = 0; lane < 3; lane++) {
            due.is("-1 cells", -14, x.sheet(0, lane, -1));
            due.is("far below 0", -14, x.sheet(0, lane, Integer.MIN_VALUE));
        }
        due.is("BAD is the first that fits: k", BAD, x.sheet(4, 0, -1));
        due.is("BAD is the first that fits: lane", BAD, x.sheet(0, 3, -1));
    }

    private static void sheetNew() {
        due.of(36, "A SHEET is a new row of CELLS 0");
        for (int lane = 0; lane < 3; lane++) {
            WaysSung x = land(1);
            x.sheet(1, lane, 40);
            for (int i = 0; i < 40; i++) {
                x.lay(1, i, 9);
            }
            due.is("no verses there, lane " + lane, -20, x.read(0, 1, lane, 39, 1));
            x.sheet(1, lane, 20);
            due.is("20 cells", -12, x.lay(1, 20, 0));
            due.is("20 cells of 0", 1, x.read(0, 1, lane, 0, 20));
            x.sheet(1, lane, 40);
            for (int i = 0; i < 40; i++) {
                due.is("40 cells of 0, cell " + i, 0, x.read(0, 1, lane, i, 1));
                due.is("no fault", 0, x.torn());
            }
        }
        WaysSung y = land(2);
        y.sheet(0, 0, 1);
        y.sheet(1, 0, 1);
        y.lay(0, 0, 1);
        due.is("each sheet is a row of its own", 1, y.read(0, 1, 0, 0, 1));
        due.is("each sheet is a row of its own", 1, y.oneOf(0, 3));
    }

    private static void sheetRefused() {
        due.of(36, "what is refused changes nothing");
        WaysSung x = land(3);
        sheet(x, 0, 1, 2, 1);
        x.sheet(0, 2, 41);
        x.sheet(0, 2, -1);
        x.sheet(0, 3, 1);
        x.lay(0, 2, 0);
        x.lay(0, -1, 0);
        due.is("cells", 2, x.count(7));
        due.is("of the lane that it was, with its numbers", 2, x.read(0, 0, 1, 0, 2));
        due.is("with its numbers", 6, x.oneOf(0, 3));
        due.is("a sheet of nothing", -14, x.sheet(2, 0, -1));
        due.is("stays so", -11, x.lay(2, 0, 0));
    }

    private static void lay() {
        WaysSung x = land(24);
        due.of(37, "BAD: k");
        for (int k : Due.outside(0, 3)) {
            due.is("sheet " + k, BAD, x.lay(k, 0, 0));
        }
        due.of(37, "-10 less the FAULT: NULL");
        for (int k = 0; k < 4; k++) {
            due.is("sheet " + k + " of nothing", -11, x.lay(k, 0, 0));
            for (int i : Due.outside(0, 39)) {
                due.is("NULL is found ahead of INDEX, cell " + i, -11, x.lay(k, i, 0));
            }
        }
        due.of(37, "-10 less the FAULT: INDEX");
        for (int lane = 0; lane < 3; lane++) {
            x.sheet(lane, lane, 0);
            due.is("of no cells", -12, x.lay(lane, 0, 0));
            x.sheet(lane, lane, 40);
            for (int i : Due.outside(0, 39)) {
                due.is("cell " + i, -12, x.lay(lane, i, 0));
            }
            due.is("the first cell", 1, x.lay(lane, 0, 22));
            due.is("the last cell", 1, x.lay(lane, 39, 23));
            due.is("the first and the last are read", 1, x.read(0, lane, lane, 0, 1) + (lane == 0 ? 0 : 1));
            due.is("the first and the last are read", 1, x.read(0, lane, lane, 39, 1) + (lane == 0 ? 0 : 1));
        }
        due.is("the first and the last are read", 3 << 22, x.oneOf(0, 3));
    }

    /** What lane makes of v, told by which verse it is; or that it is none. */
    private static void reads(int lane, int v, int verse) {
        WaysSung x = land(24);
        sheet(x, 3, lane, v);
        due.is("lane " + lane + " of " + v, verse < 0 ? -20 : 1, x.read(0, 3, lane, 0, 1));
        due.is("lane " + lane + " of " + v, verse < 0 ? 0 : 1 << verse, x.oneOf(0, 3));
    }

    private static void layBits() {
        due.of(37, "CELL i of a SHEET becomes v (its lowest bits)");
        reads(0, 23, 23);
        reads(0, 256 + 5, 5);
        reads(0, -256, 0);
        reads(0, -251, 5);
        reads(0, 127, -1);
        reads(0, 128, -1);
        reads(0, 255, -1);
        reads(0, Integer.MIN_VALUE, 0);
        reads(0, Integer.MAX_VALUE, -1);
        reads(1, 23, 23);
        reads(1, 256 + 5, -1);
        reads(1, 65536 + 5, 5);
        reads(1, -65536, 0);
        reads(1, 32768, -1);
        reads(1, 65535, -1);
        reads(1, Integer.MIN_VALUE, 0);
        reads(2, 23, 23);
        reads(2, 256 + 5, -1);
        reads(2, 65536 + 5, -1);
        reads(2, -1, -1);
        reads(2, Integer.MIN_VALUE, -1);
    }

    private static void readBad() {
        WaysSung x = land(24);
        sheet(x, 0, 0, new int[40]);
        due.of(38, "BAD: who, k, lane, n");
        for (int who : Due.outside(0, 1)) {
            due.is("one " + who, BAD, x.read(who, 0, 0, 0, 1));
        }
        for (int k : Due.outside(0, 3)) {
            due.is("sheet " + k, BAD, x.read(0, k, 0, 0, 1));
        }
        for (int lane : Due.outside(0, 2)) {
            due.is("lane " + lane, BAD, x.read(0, 0, lane, 0, 1));
        }
        due.is("no one at all", BAD, new WaysSung().read(0, 0, 0, 0, 0));
        due.of(38, "n (0 to 24)");
        for (int n : Due.outside(0, 24)) {
            due.is("n " + n, BAD, x.read(0, 0, 0, 0, n));
        }
        due.is("refused: has none", 0, x.oneOf(0, 3));
        due.is("none", 0, x.read(0, 0, 0, 0, 0));
        due.is("none: has none", 0, x.oneOf(0, 3));
        due.is("24 cells, all verse 0", 1, x.read(0, 0, 0, 0, 24));
        due.of(38, "STATE: ONE does not live");
        x.dies(1);
        due.is("one", STATE, x.read(1, 0, 0, 0, 1));
        due.is("none", STATE, x.read(1, 0, 0, 0, 0));
        due.is("ahead of what the machine refuses", STATE, x.read(1, 1, 0, 0, 1));
        due.is("ahead of a cell that is no verse", STATE, x.read(1, 0, 0, 0, 24));
        due.is("BAD is the first that fits", BAD, x.read(1, 0, 0, 0, 25));
        due.is("refused: has none", 0, x.oneOf(1, 3));
    }

    private static void readMany() {
        due.of(38, "n VERSES are read, from CELL f on: how many it had not");
        WaysSung x = land(24);
        int[] cells = new int[40];
        for (int i = 0; i < 40; i++) {
            cells[i] = i % 24;
        }
        sheet(x, 2, 1, cells);
        due.is("the last 24", 24, x.read(0, 2, 1, 16, 24));
        due.is("all", ALL, x.oneOf(0, 3));
        due.is("not torn", 0, x.torn());
        due.is("again", 0, x.read(0, 2, 1, 0, 24));
        x.has(0, 23, false);
        x.has(0, 0, false);
        due.is("two it had not", 2, x.read(0, 2, 1, 0, 24));
        due.is("cell 39 alone", 1, x.read(1, 2, 1, 39, 1));
        due.is("cell 39 alone", 1 << 15, x.oneOf(1, 3));
        sheet(x, 2, 1, 3, 3, 15, 3);
        due.is("one that comes three times, one that it has", 1, x.read(1, 2, 1, 0, 4));
        due.is("one that comes three times, one that it has", 1 << 15 | 1 << 3, x.oneOf(1, 3));
        due.is("a verse of another kin may not be heard, and is had", 0, x.may(1, 0));
        due.is("has none of no cells", 0, x.read(1, 2, 1, 4, 0));
    }

    private static void readNoVerse() {
        due.of(38, "-20 less i: CELL f + i is no VERSE: then none is");
        WaysSung x = land(3);
        sheet(x, 0, 2, 0, 1, 2, 3, -1, Integer.MIN_VALUE, Integer.MAX_VALUE, 32);
        due.is("cell 3, the fourth", -23, x.read(0, 0, 2, 0, 24));
        due.is("cell 3, the third", -22, x.read(0, 0, 2, 1, 3));
        due.is("cell 3, the first", -20, x.read(0, 0, 2, 3, 1));
        due.is("-1", -20, x.read(0, 0, 2, 4, 1));
        due.is("the least", -20, x.read(0, 0, 2, 5, 1));
        due.is("the most", -20, x.read(0, 0, 2, 6, 1));
        due.is("a shift by 32", -20, x.read(0, 0, 2, 7, 1));
        due.is("none is had", 0, x.oneOf(0, 3));
        due.is("those ahead can be read alone", 3, x.read(0, 0, 2, 0, 3));
        x.verse(0, 0, 0, 1, NONE);
        due.is("it has come", 1, x.read(0, 0, 2, 0, 4));
        int[] long23 = new int[24];
        long23[23] = 9;
        sheet(x, 1, 0, long23);
        due.is("the last of 24", -43, x.read(0, 1, 0, 0, 24));
        WaysSung y = new WaysSung();
        y.one(0, 0, 0);
        sheet(y, 0, 0, 0);
        due.is("no verses at all", -20, y.read(0, 0, 0, 0, 1));
    }

    private static void readRefused() {
        due.of(38, "What the machine refuses: those ahead are had: INDEX");
        WaysSung x = land(24);
        sheet(x, 0, 0, 5, 6, 7);
        due.is("behind the last cell", 2, x.read(0, 0, 0, 1, 3));
        due.is("behind the last cell", 3 << 6, x.oneOf(0, 3));
        due.is("behind the last cell", 2, x.torn());
        for (int f : Due.outside(0, 2)) {
            due.is("from " + f, 0, x.read(1, 0, 0, f, 24));
            due.is("from " + f, 2, x.torn());
        }
        due.is("-1 and on", 0, x.read(1, 0, 0, -1, 3));
        due.is("none is had", 0, x.oneOf(1, 3));
        x.sheet(1, 2, 0);
        due.is("of no cells", 0, x.read(1, 1, 2, 0, 1));
        due.is("of no cells", 2, x.torn());
        due.of(38, "What the machine refuses: NULL");
        for (int lane = 0; lane < 3; lane++) {
            x.read(1, 0, 0, 0, 0);
            due.is("nothing, lane " + lane, 0, x.read(1, 2, lane, 0, 1));
            due.is("nothing, lane " + lane, 1, x.torn());
        }
        due.is("NULL ahead of INDEX", 0, x.read(1, 2, 0, -1, 1));
        due.is("NULL ahead of INDEX", 1, x.torn());
        due.of(38, "What the machine refuses: CAST (another lane)");
        for (int lane = 0; lane < 3; lane++) {
            sheet(x, 3, lane, 1, 2);
            for (int as = 0; as < 3; as++) {
                x.has(1, 1, false);
                due.is("lane " + lane + " as " + as, lane == as ? 1 : 0, x.read(1, 3, as, 0, 1));
                due.is("lane " + lane + " as " + as, lane == as ? 0 : 3, x.torn());
            }
        }
        due.is("CAST ahead of INDEX", 0, x.read(1, 3, 0, 99, 1));
        due.is("CAST ahead of INDEX", 3, x.torn());
    }

    private static void readFirstMet() {
        due.of(38, "the first met");
        WaysSung x = land(3);
        sheet(x, 0, 0, 0, 9, 1);
        due.is("no verse ahead of the end of the row", -21, x.read(0, 0, 0, 0, 4));
        due.is("the end of the row ahead of none", 1, x.read(0, 0, 0, 2, 2));
        due.is("of two that are no verses the first", -21, x.read(0, 0, 0, 0, 3));
        due.is("CAST ahead of a cell that is no verse", 0, x.read(0, 0, 1, 1, 1));
        due.is("CAST", 3, x.torn());
        due.is("INDEX ahead of a cell that is no verse", 0, x.read(0, 0, 0, -1, 3));
        due.is("INDEX", 2, x.torn());
    }

    private static void torn() {
        due.of(39, "The FAULT of the latest read(); 0");
        WaysSung x = land(3);
        due.is("no read yet", 0, x.torn());
        sheet(x, 0, 0, 0, 1, 7);
        int[][] reads = {{1, 0, 0, 1, 1}, {0, 0, 0, 1, 0}, {0, 0, 3, 1, 2}, {0, 1, 0, 1, 3}, {0, 0, 0, 2, 0}};
        for (int[] r : reads) {
            x.read(0, r[0], r[1], r[2], r[3]);
            due.is("fault", r[4], x.torn());
            due.is("asked again", r[4], x.torn());
        }
        x.read(0, 1, 0, 0, 1);
        x.read(0, 0, 0, 0, 0);
        due.is("a read of none has no fault", 0, x.torn());
    }

    private static void tornStays() {
        due.of(39, "of the latest read() that came to an end");
        WaysSung x = land(3);
        sheet(x, 0, 0, 0, 1, 7);
        x.dies(1);
        x.read(0, 1, 0, 0, 1);
        int[][] refused = {{2, 0, 0, 0, 1, BAD}, {0, 4, 0, 0, 1, BAD}, {0, 0, 3, 0, 1, BAD}, {0, 0, 0, 0, 25, BAD},
            {0, 0, 0, 0, -1, BAD}, {1, 0, 0, 0, 1, STATE}, {1, 0, 0, 9, 1, STATE}, {0, 0, 0, 2, 1, -20}, {0, 0, 0, 0, 4, -22}};
        for (int[] r : refused) {
            due.is("refused", r[5], x.read(r[0], r[1], r[2], r[3], r[4]));
            due.is("NULL as before", 1, x.torn());
        }
        x.lay(0, 9, 0);
        x.lay(3, 0, 0);
        x.sheet(0, 0, -1);
        due.is("the faults of other calls are not asked for", 1, x.torn());
        x.read(0, 0, 0, 0, 1);
        due.is("one that came to an end", 0, x.torn());
        due.is("one that did not", -20, x.read(0, 0, 0, 2, 1));
        due.is("0 as before", 0, x.torn());
    }

    private static void count() {
        WaysSung x = new WaysSung();
        due.of(40, "BAD: what 0 to 7");
        for (int what : Due.outside(0, 7)) {
            due.is("what " + what, BAD, x.count(what));
        }
        due.of(40, "7 CELLS of SHEET 0 (NONE: nothing)");
        x.sheet(1, 0, 5);
        due.is("sheet 1 alone", NONE, x.count(7));
        x.sheet(0, 2, 0);
        due.is("no cells", 0, x.count(7));
        x.sheet(0, 1, 40);
        due.is("40 cells", 40, x.count(7));
        x.sheet(0, 1, 39);
        due.is("39 cells", 39, x.count(7));
        due.of(40, "0 PLACES, 1 VERSES, 2 PEOPLE, 3 of these that live");
        for (int i = 0; i < 25; i++) {
            x.place(0, 0);
            x.verse(0, 0, 0, 1, NONE);
            x.one(0, 0, 0);
            due.is("places", Math.min(12, i + 1), x.count(0));
            due.is("verses", Math.min(24, i + 1), x.count(1));
            due.is("people", Math.min(8, i + 1), x.count(2));
            due.is("of these that live", Math.min(8, i + 1), x.count(3));
        }
        for (int i = 0; i < 8; i++) {
            x.dies(i);
            due.is("that live", 7 - i, x.count(3));
        }
        due.is("people", 8, x.count(2));
        due.of(40, "4 THE YEAR, 5 THE SEASON, 6 bytes on THE TAPE");
        x.now(99, 3);
        due.is("year", 99, x.count(4));
        due.is("season", 3, x.count(5));
        for (int i = 1; i <= 26; i++) {
            x.feed(0);
            due.is("bytes", Math.min(200, 8 * i), x.count(6));
        }
        x.end(3);
        due.is("bytes", 3, x.count(6));
        x.rules();
        due.is("no bytes", 0, x.count(6));
    }
}

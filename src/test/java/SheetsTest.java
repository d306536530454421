/** Promises 36 to 40: sheets, and what is counted. */
public final class SheetsTest {
    private static final Due due = new Due("SheetsTest");

    public static void main(String[] args) {
        sheets();
        laying();
        reading();
        faults();
        counting();
        due.close();
    }

    private static WaysSung land(int verses) {
        WaysSung x = new WaysSung();
        x.place(0, 0);
        for (int v = 0; v < verses; v++) {
            x.verse(0, 0, 0, 1, 7);
        }
        x.one(0, 0, 0);
        x.one(0, 0, 0);
        return x;
    }

    private static void sheets() {
        WaysSung x = land(1);
        due.is("36: sheet", 1, x.sheet(0, 0, 0));
        due.is("40: cells", 0, x.count(7));
        due.is("36: sheet", 1, x.sheet(0, 2, 40));
        due.is("40: cells", 40, x.count(7));
        due.is("36: size", -14, x.sheet(0, 0, -1));
        due.is("36: size", -14, x.sheet(3, 2, Integer.MIN_VALUE));
        due.is("36: above", -1, x.sheet(0, 0, 41));
        due.is("36: bad ahead of size", -1, x.sheet(4, 0, -1));
        due.is("36: bad ahead of size", -1, x.sheet(0, 3, -1));
        due.is("36: k", -1, x.sheet(-1, 0, 1));
        due.is("36: lane", -1, x.sheet(0, -1, 1));
        due.is("36: refused, stays", 40, x.count(7));
        due.is("36: refused, nothing stays", -11, x.lay(3, 0, 0));
        due.is("39: no read", 0, x.torn());
        x.lay(0, 0, 1);
        due.is("38: no verse there", -20, x.read(0, 0, 2, 0, 1));
        due.is("36: new", 1, x.sheet(0, 2, 40));
        due.is("36: cells 0", 1, x.read(0, 0, 2, 0, 24));
    }

    private static void laying() {
        WaysSung x = land(24);
        for (int lane = 0; lane < 3; lane++) {
            x.sheet(lane, lane, 2);
            due.is("37: lay", 1, x.lay(lane, 0, 0x10005));
            due.is("37: lay", 1, x.lay(lane, 1, 0x107));
            due.is("37: above", -12, x.lay(lane, 2, 0));
            due.is("37: below", -12, x.lay(lane, -1, 0));
        }
        due.is("37: byte", 2, x.read(0, 0, 0, 0, 2));
        due.is("37: byte", 1 << 5 | 1 << 7, x.oneOf(0, 3));
        due.is("37: short", 1, x.read(1, 1, 1, 0, 1));
        due.is("37: short", 1 << 5, x.oneOf(1, 3));
        due.is("37: short is no verse", -20, x.read(1, 1, 1, 1, 1));
        due.is("37: int is no verse", -20, x.read(1, 2, 2, 0, 1));
        x.lay(0, 0, 0x85);
        due.is("37: a byte below 0", -20, x.read(1, 0, 0, 0, 1));
        x.lay(1, 0, 0x8000);
        due.is("37: a short below 0", -20, x.read(1, 1, 1, 0, 1));
        due.is("37: nothing", -11, x.lay(3, 0, 0));
        due.is("37: nothing ahead of index", -11, x.lay(3, -1, 0));
        x.sheet(3, 1, 0);
        due.is("37: no cells", -12, x.lay(3, 0, 0));
        due.is("37: k", -1, x.lay(4, 0, 0));
        due.is("37: k", -1, x.lay(-1, 0, 0));
    }

    private static void reading() {
        WaysSung x = land(3);
        x.sheet(1, 1, 5);
        int[] cells = {2, 1, 1, 3, 0};
        for (int i = 0; i < cells.length; i++) {
            x.lay(1, i, cells[i]);
        }
        x.has(0, 2, true);
        due.is("38: those it had not", 1, x.read(0, 1, 1, 0, 3));
        due.is("10: has", 6, x.oneOf(0, 3));
        due.is("38: no verse, then none", -22, x.read(1, 1, 1, 1, 4));
        due.is("10: has none", 0, x.oneOf(1, 3));
        due.is("38: no cells read", 0, x.read(1, 1, 1, 0, 0));
        due.is("38: from f on", 1, x.read(1, 1, 1, 4, 1));
        due.is("10: has", 1, x.oneOf(1, 3));
        due.is("9: heads", 1, x.verseOf(0, 6));
        due.is("38: one", -1, x.read(2, 1, 1, 0, 1));
        due.is("38: one", -1, x.read(-1, 1, 1, 0, 1));
        due.is("38: k", -1, x.read(0, 4, 1, 0, 1));
        due.is("38: k", -1, x.read(0, -1, 1, 0, 1));
        due.is("38: lane", -1, x.read(0, 1, 3, 0, 1));
        due.is("38: lane", -1, x.read(0, 1, -1, 0, 1));
        due.is("38: n", -1, x.read(0, 1, 1, 0, 25));
        due.is("38: n", -1, x.read(0, 1, 1, 0, -1));
        x.dies(1);
        due.is("38: bad ahead of state", -1, x.read(1, 1, 1, 0, 25));
        due.is("38: lives no more", -2, x.read(1, 1, 1, 0, 1));
        due.is("38: lives no more", -2, x.read(1, 1, 1, 0, 0));
    }

    private static void faults() {
        WaysSung x = land(3);
        x.sheet(0, 0, 3);
        x.lay(0, 0, 2);
        x.lay(0, 1, 1);
        due.is("38: those ahead are had", 2, x.read(0, 0, 0, 1, 4));
        due.is("39: index", 2, x.torn());
        due.is("10: has", 3, x.oneOf(0, 3));
        due.is("38: cast", 0, x.read(1, 0, 2, 0, 1));
        due.is("39: cast", 3, x.torn());
        due.is("38: cast ahead of index", 0, x.read(1, 0, 1, 99, 1));
        due.is("39: cast ahead of index", 3, x.torn());
        due.is("38: null", 0, x.read(1, 1, 2, -5, 1));
        due.is("39: null", 1, x.torn());
        due.is("38: below", 0, x.read(1, 0, 0, -1, 3));
        due.is("39: below", 2, x.torn());
        due.is("38: far", 0, x.read(1, 0, 0, Integer.MAX_VALUE, 24));
        due.is("39: far", 2, x.torn());
        due.is("38: far", 0, x.read(1, 0, 0, Integer.MIN_VALUE, 24));
        x.lay(0, 2, 9);
        x.read(1, 0, 2, 0, 1);
        due.is("38: no verse met first", -22, x.read(1, 0, 0, 0, 24));
        due.is("39: that read came to no end", 3, x.torn());
        x.read(9, 0, 0, 0, 1);
        due.is("39: nor one that was refused", 3, x.torn());
        due.is("10: has none", 0, x.oneOf(1, 3));
        due.is("38: two", 2, x.read(1, 0, 0, 0, 2));
        due.is("39: no fault", 0, x.torn());
        x.read(1, 0, 2, 0, 1);
        x.dies(1);
        x.read(1, 0, 0, 0, 1);
        due.is("39: nor one by the dead", 3, x.torn());
        x.sheet(0, 0, -1);
        x.lay(3, 0, 0);
        due.is("39: of read alone", 3, x.torn());
    }

    private static void counting() {
        WaysSung x = land(3);
        x.place(1, 1);
        x.one(0, 0, 0);
        x.dies(1);
        x.now(8, 2);
        x.feed(0);
        x.end(5);
        x.sheet(1, 0, 30);
        int[] want = {2, 3, 3, 2, 8, 2, 5, -4};
        for (int what = 0; what < 8; what++) {
            due.is("40: " + what, want[what], x.count(what));
        }
        x.sheet(0, 1, 7);
        due.is("40: cells", 7, x.count(7));
        due.is("40: what", -1, x.count(8));
        due.is("40: what", -1, x.count(-1));
    }
}

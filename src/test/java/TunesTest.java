/** Promises 26 to 30: tunes and where songs cross. */
public final class TunesTest {
    private static final Due due = new Due("TunesTest");

    public static void main(String[] args) {
        tunes();
        pieces();
        sure();
        faster();
        crossing();
        due.close();
    }

    /** Places as high as their numbers are; a song for each row of heights. */
    private static WaysSung songs(int[]... heights) {
        WaysSung x = new WaysSung();
        for (int p = 0; p < 10; p++) {
            x.place(p, 0);
        }
        for (int s = 0; s < heights.length; s++) {
            for (int h : heights[s]) {
                x.verse(s, h, 0, 1, -4);
            }
        }
        return x;
    }

    private static void tunes() {
        WaysSung x = songs(new int[] {0, 5, 5, 3}, new int[] {7});
        due.is("26: up, level, down", 27 + 9 + 6, x.tune(0));
        due.is("26: one verse", 1, x.tune(1));
        due.is("26: none", 1, x.tune(2));
        due.is("26: song", -1, x.tune(4));
        due.is("26: song", -1, x.tune(-1));
        WaysSung y = songs(new int[17]);
        due.is("26: 17 verses", 2 * 43046721 - 1, y.tune(0));
        y.verse(0, 9, 0, 1, -4);
        due.is("26: 18 verses", -2, y.tune(0));
        due.is("26: bad", -1, y.tune(5));
    }

    private static void pieces() {
        WaysSung x = songs(new int[] {0, 1, 2, 1, 1}, new int[] {0, 1, 0});
        due.is("27: up", 3, x.where(1, 1, 0));
        due.is("27: up", 1 | 2 | 32, x.where(1, 1, 2));
        due.is("27: up, down", 2 | 32, x.where(2, 3, 2));
        due.is("27: least", 1, x.where(2, 3, 1));
        due.is("27: down, up", 0, x.where(2, 1, 0));
        due.is("27: none", -4, x.where(2, 1, 1));
        due.is("27: none", 0, x.where(2, 1, 2));
        due.is("27: whole", 1, x.where(4, 27 + 9 + 2, 2));
        due.is("27: not over the end of a song", 0, x.where(5, 3 * (27 + 9 + 2), 0));
        due.is("27: m", -1, x.where(0, 0, 0));
        due.is("27: m", -1, x.where(9, 0, 0));
        due.is("27: piece", -1, x.where(1, 3, 0));
        due.is("27: piece", -1, x.where(1, -1, 0));
        due.is("27: piece", 0, x.where(8, 6560, 0));
        due.is("27: piece", -1, x.where(8, 6561, 0));
        due.is("27: what", -1, x.where(1, 1, 3));
        due.is("27: what", -1, x.where(1, 1, -1));
    }

    private static void sure() {
        WaysSung x = songs(new int[] {0, 1, 2, 1, 1}, new int[] {0, 1, 0});
        due.is("28: two ups", 2, x.sure(0));
        due.is("28: three steps", 3, x.sure(1));
        due.is("28: level", 1, x.sure(3));
        due.is("28: the last", -4, x.sure(4));
        due.is("28: ends ahead", -4, x.sure(5));
        due.is("28: down and level", 2, x.sure(2));
        due.is("28: down and the end", -4, x.sure(6));
        due.is("28: verse", -1, x.sure(8));
        due.is("28: verse", -1, x.sure(-1));
        WaysSung y = songs(new int[10], new int[] {0, 0, 0, 0, 0, 0, 0, 0, 1});
        due.is("28: not with 8", -4, y.sure(0));
        due.is("28: just with 8", 8, y.sure(10));
        due.is("28: with 2", 2, y.sure(16));
    }

    private static void faster() {
        WaysSung x = songs(new int[] {3, 4, 5, 4, 5, 2, 5, 6, 6});
        due.is("29: by 2", 4, x.faster(0, 2, 0));
        due.is("29: by 2", 2, x.faster(0, 2, 1));
        due.is("29: by 3", 2, x.faster(0, 3, 0));
        due.is("29: by 3", 2, x.faster(0, 3, 1));
        due.is("29: by 4", 2, x.faster(0, 4, 0));
        due.is("29: by 4", 1, x.faster(0, 4, 1));
        due.is("29: empty", 0, x.faster(1, 2, 0));
        x.verse(1, 0, 0, 0, -4);
        due.is("29: one", 0, x.faster(1, 2, 0));
        x.verse(1, 0, 0, 1, -4);
        due.is("29: two", 0, x.faster(1, 2, 0));
        x.verse(1, 0, 0, 1, -4);
        due.is("29: three", 1, x.faster(1, 2, 0));
        due.is("29: level", 1, x.faster(1, 2, 1));
        due.is("29: song", -1, x.faster(4, 2, 0));
        due.is("29: song", -1, x.faster(-1, 2, 0));
        due.is("29: k", -1, x.faster(0, 1, 0));
        due.is("29: k", -1, x.faster(0, 5, 0));
        due.is("29: what", -1, x.faster(0, 2, 2));
        due.is("29: what", -1, x.faster(0, 2, -1));
    }

    private static void crossing() {
        WaysSung x = songs(new int[] {0, 1, 2}, new int[] {2, 3, 0}, new int[] {2}, new int[] {9});
        due.is("30: places", 5, x.cross(0, 1, 0));
        due.is("30: either way round", 5, x.cross(1, 0, 0));
        due.is("30: none", 0, x.cross(0, 3, 0));
        for (int i = 0; i < 5; i++) {
            x.one(0, i == 4 ? 5 : 50, 0);
        }
        x.has(0, 0, true);
        x.has(1, 1, true);
        x.has(2, 3, true);
        x.has(3, 6, true);
        x.has(4, 0, true);
        due.is("30: people", 1 | 4, x.cross(0, 1, 1));
        due.is("30: a third song does not count", 4, x.cross(1, 0, 1) & 12);
        due.is("30: people", 8, x.cross(2, 0, 1));
        due.is("30: nobody", 0, x.cross(0, 3, 1));
        x.dies(0);
        due.is("30: living", 4, x.cross(0, 1, 1));
        due.is("30: alike", -1, x.cross(1, 1, 0));
        due.is("30: song", -1, x.cross(4, 0, 0));
        due.is("30: song", -1, x.cross(0, 4, 0));
        due.is("30: song", -1, x.cross(-1, 0, 0));
        due.is("30: what", -1, x.cross(0, 1, 2));
        due.is("30: what", -1, x.cross(0, 1, -1));
    }
}

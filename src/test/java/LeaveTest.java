/** Promises 16 to 19: who may hear and sing what. */
public final class LeaveTest {
    private static final Due due = new Due("LeaveTest");

    public static void main(String[] args) {
        hearing();
        singing();
        asking();
        leading();
        needing();
        due.close();
    }

    /** Song 0: open, of kin 1, of kin 2, open; song 1: of kin 1. */
    private static WaysSung land() {
        WaysSung x = new WaysSung();
        x.place(0, 15);
        x.place(1, 15);
        x.place(2, 15);
        x.verse(0, 0, 0, 0, -4);
        x.verse(0, 1, 1, 1, 1);
        x.verse(0, 2, 2, 1, 2);
        x.verse(0, 0, 8, 1, -4);
        x.verse(1, 2, 3, 0, 1);
        x.one(1, 12, 1 | 2);
        x.one(2, 11, 511);
        x.one(3, 50, 0);
        return x;
    }

    private static void hearing() {
        WaysSung x = land();
        due.is("16: open and of one's kin", 27, x.may(0, 0));
        due.is("16: open and of one's kin", 13, x.may(1, 0));
        due.is("16: open", 9, x.may(2, 0));
        Due.rules(x, "hear 1 2;hear 2 3;");
        due.is("16: not the other way round", 27, x.may(0, 0));
        due.is("16: of kin 1, too", 31, x.may(1, 0));
        due.is("16: not by way of another kin", 13, x.may(2, 0));
        x.dies(2);
        due.is("16: hearing asks for no life", 13, x.may(2, 0));
        due.is("16: one", -1, x.may(3, 0));
        due.is("16: one", -1, x.may(-1, 0));
        due.is("16: what", -1, x.may(0, 2));
        due.is("16: what", -1, x.may(0, -1));
    }

    private static void singing() {
        WaysSung x = land();
        for (int v = 0; v < 5; v++) {
            for (int i = 0; i < 3; i++) {
                x.has(i, v, true);
            }
        }
        due.is("16: of the age", 27, x.may(0, 1));
        due.is("16: too young", 0, x.may(1, 1));
        due.is("16: open", 9, x.may(2, 1));
        x.now(1, 0);
        due.is("16: of the age now", 13, x.may(1, 1));
        Due.rules(x, "hear 1 2;hear 1 3;sing 13;");
        due.is("16: to hear is not to sing", 9, x.may(2, 1));
        due.is("16: the age as told", 27, x.may(0, 1));
        due.is("16: the age as told", 0, x.may(1, 1));
        x.has(0, 1, false);
        due.is("16: has it no more", 25, x.may(0, 1));
        x.dies(0);
        due.is("16: lives no more", 0, x.may(0, 1));
    }

    private static void asking() {
        WaysSung x = land();
        due.is("17: heard", 11, x.asks(0, 0, 0));
        due.is("17: others", 1, x.asks(0, 0, 1));
        due.is("17: places", 3, x.asks(0, 0, 2));
        due.is("17: tongue", 3, x.asks(0, 0, 3));
        due.is("17: all tongues", -4, x.asks(1, 0, 3));
        due.is("17: no tongue", 0, x.asks(2, 0, 3));
        due.is("17: other song heard", 0, x.asks(1, 1, 0));
        due.is("17: other song others", 1, x.asks(1, 1, 1));
        due.is("17: other song places", 0, x.asks(1, 1, 2));
        due.is("17: not heard, no tongue", -4, x.asks(2, 1, 3));
        due.is("17: tongue of another song", 4, x.asks(0, 1, 3));
        due.is("17: empty song", 0, x.asks(0, 3, 1));
        due.is("17: empty song", -4, x.asks(0, 3, 3));
        due.is("17: one", -1, x.asks(3, 0, 0));
        due.is("17: song", -1, x.asks(0, 4, 0));
        due.is("17: song", -1, x.asks(0, -1, 0));
        due.is("17: what", -1, x.asks(0, 0, 4));
        due.is("17: what", -1, x.asks(0, 0, -1));
    }

    private static void leading() {
        WaysSung x = land();
        x.now(1, 0);
        x.has(0, 0, true);
        x.has(0, 1, true);
        x.has(1, 2, true);
        x.has(1, 1, true);
        due.is("18: nobody", 0, x.led(0));
        due.is("18: one", 3, x.led(1));
        due.is("18: another", 4, x.led(2));
        due.is("18: both", 7, x.led(3));
        due.is("18: all", 7, x.led(7));
        Due.rules(x, "pair 1 2;");
        due.is("18: half a pair", 1, x.led(1));
        due.is("18: half a pair", 0, x.led(2));
        due.is("18: both halves", 7, x.led(3));
        Due.rules(x, "pair 1 2;pair 0 1;pair 1 3;");
        due.is("18: one of its pairs wanting", 0, x.led(1) & 2);
        due.is("18: its other one is sung", 5, x.led(3));
        Due.rules(x, "pair 0 23;");
        due.is("18: a verse that is not", 6, x.led(3));
        Due.rules(x, "");
        x.dies(1);
        due.is("18: the dead", 3, x.led(3));
        due.is("18: people", -1, x.led(8));
        due.is("18: people", -1, x.led(-1));
    }

    private static void needing() {
        WaysSung x = land();
        due.is("19: kins", 6, x.need(0));
        due.is("19: kins", 2, x.need(1));
        due.is("19: nothing", 0, x.need(2));
        x.verse(2, 0, 0, 0, -4);
        due.is("19: open", 0, x.need(2));
        x.verse(3, 0, 0, 0, 7);
        Due.rules(x, "pair 5 6;pair 4 2;pair 2 6;pair 5 20;");
        due.is("19: pairs, too", 128, x.need(2));
        due.is("19: pairs of its own verses alone", 6, x.need(1));
        Due.rules(x, "pair 0 6;");
        due.is("19: pairs of the first verse", 128 | 6, x.need(0));
        due.is("19: and the other way round", 128, x.need(3));
        due.is("19: song", -1, x.need(4));
        due.is("19: song", -1, x.need(-1));
    }
}

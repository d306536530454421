/** Promises 11 to 15: the tape and what it tells. */
public final class RulesTest {
    private static final Due due = new Due("RulesTest");

    public static void main(String[] args) {
        tape();
        told();
        faults();
        edges();
        cutOff();
        stays();
        due.close();
    }

    private static void tape() {
        WaysSung x = new WaysSung();
        for (int i = 1; i <= 25; i++) {
            due.is("11: feed", 8 * i, x.feed(0x2020202020202020L));
        }
        due.is("11: full", -3, x.feed(0));
        due.is("12: above", -1, x.end(201));
        due.is("12: below", -1, x.end(-1));
        due.is("12: end", 200, x.end(193));
        due.is("11: more than 200", -3, x.feed(0));
        due.is("12: end", 193, x.end(192));
        due.is("11: just 200", 200, x.feed(0x2020202020202020L));
        due.is("12: all", 200, x.end(200));
        due.is("13: blanks", 0, x.rules());
        due.is("13: empty then", 0, x.count(6));
        due.is("12: longer", -1, x.end(1));
        due.is("12: none", 0, x.end(0));
        x.feed(-1L);
        due.is("13: no token", -10, x.rules());
        due.is("13: empty then", 0, x.count(6));
        // the highest byte first
        x.feed('c' * (1L << 56) + ((long) 'a' << 48) + ((long) 'r' << 40) + ((long) 'r' << 32)
            + ((long) 'y' << 24) + ((long) '2' << 16) + ((long) '0' << 8) + ';');
        due.is("11: order", 1, x.rules());
        due.is("11: order", 20, x.rule(2));
    }

    private static void told() {
        WaysSung x = new WaysSung();
        due.is("13: lines", 9, Due.rules(x,
            "hear 0 1;hear 0 2 ; hear 1 0; sing 0;tell99;carry 01;dry 0 99;pair 23 0;pair 1 23;"));
        due.is("14: no fault", 0, x.fault());
        int[] at = {0, 1, 2, 10, 11, 12, 17, 30, 31, 53, 52};
        int[] want = {0, 99, 1, 6, 1, 0, 0, 1 << 23, 1 << 23, 3, 0};
        for (int i = 0; i < at.length; i++) {
            due.is("15: rule " + at[i], want[i], x.rule(at[i]));
        }
        int[] bad = {-1, 3, 9, 18, 29, 54, Integer.MIN_VALUE, Integer.MAX_VALUE};
        for (int what : bad) {
            due.is("15: rule " + what, -1, x.rule(what));
        }
        due.is("13: in place of what there was", 1, Due.rules(x, "hear 7 7;"));
        due.is("15: sing", 12, x.rule(0));
        due.is("15: tell", 20, x.rule(1));
        due.is("15: carry", 3, x.rule(2));
        due.is("15: hear", 0, x.rule(10));
        due.is("15: hear", 128, x.rule(17));
        due.is("15: pair", 0, x.rule(30));
    }

    private static void fault(String text, int place, int kind) {
        WaysSung x = new WaysSung();
        due.is("13: " + text, -10 - place, Due.rules(x, text));
        due.is("14: " + text, kind, x.fault());
        due.is("13: tape after " + text, 0, x.count(6));
    }

    private static void faults() {
        fault("Sing 5;", 0, 1);
        fault("sing 5;  !", 9, 1);
        fault("sing\t5;", 4, 1);
        fault("sings 5;", 0, 1);
        fault("sin 5;", 0, 1);
        fault("hear 1 foo;", 7, 1);
        fault("hear 1 2 333;", 9, 1);
        fault("sing 000;", 5, 1);
        fault("sing 5;" + (char) 233, 7, 1);
        fault("sing 5;" + (char) 0, 7, 1);
        fault(";", 0, 2);
        fault("sing 5;;", 7, 2);
        fault("7 sing;", 0, 2);
        fault("sing ;", 5, 2);
        fault("sing sing;", 5, 2);
        fault("sing 5 6;", 7, 2);
        fault("sing 5 tell 6;", 7, 2);
        fault("hear 1;", 6, 2);
        fault("hear 1 2 3;", 9, 2);
        fault("dry 1 pair", 6, 2);
        fault("hear", 4, 2);
        fault("hear   ", 7, 2);
        fault("hear 1 ", 7, 2);
        fault("hear 1 2", 8, 2);
        fault("hear 1 2  ", 10, 2);
        fault("hear 8 foo", 5, 3);
        fault("hear 0 8 foo", 7, 3);
        fault("carry 0 foo", 6, 3);
        fault("carry 21", 6, 3);
        fault("dry 12 x", 4, 3);
        fault("pair 24 x", 5, 3);
        fault("pair 0 24 x", 7, 3);
        fault("pair 7 07 x", 7, 3);
        fault("sing 1;sing !", 7, 4);
        fault("tell 1;sing 1;tell 1;", 14, 4);
        fault("carry 1;carry 99;", 8, 4);
        fault("dry 3 1;dry 03 !", 12, 4);
        fault("hear 1 2;hear 2 1;hear 1 2!", 25, 4);
        fault("pair 1 2;pair 2 1!", 16, 4);
        fault("pair 1 2;pair 1 02!", 16, 4);
    }

    private static void edges() {
        WaysSung x = new WaysSung();
        due.is("13: no blanks", 2, Due.rules(x, "sing1;tell2;"));
        due.is("13: many blanks", 1, Due.rules(x, "   sing   3   ;   "));
        due.is("13: bounds", 7, Due.rules(x,
            "hear 7 0;sing 99;tell 0;carry 20;dry 11 99;pair 0 23;dry 0 0;"));
        due.is("15: carry", 20, x.rule(2));
        due.is("13: least carry", 1, Due.rules(x, "carry 1;"));
        StringBuilder full = new StringBuilder();
        for (int i = 0; i < 25; i++) {
            full.append(i < 8 ? "hear0 " + i + ";" : "        ");
        }
        due.is("13: 200 bytes", 8, Due.rules(x, full.toString()));
        due.is("15: hear", 255, x.rule(10));
    }

    private static void cutOff() {
        WaysSung x = new WaysSung();
        Due.text(x, "sing 51234");
        x.end(7);
        due.is("12: figures that are cut off", -17, x.rules());
        due.is("14: figures that are cut off", 2, x.fault());
        Due.text(x, "sing 5;singing");
        x.end(11);
        due.is("12: letters that are cut off", -17, x.rules());
        due.is("14: letters that are cut off", 4, x.fault());
        String blanks = " ".repeat(192);
        due.is("13: a name to the very end", -210, Due.rules(x, blanks + "    sing"));
        due.is("14: a name to the very end", 2, x.fault());
        due.is("13: a number to the very end", -210, Due.rules(x, blanks + " sing 12"));
        due.is("13: a line to the very end", 1, Due.rules(x, blanks + "sing 12;"));
    }

    private static void stays() {
        WaysSung x = new WaysSung();
        Due.rules(x, "sing 30;pair 1 2;dry 3 4;hear 5 6;");
        due.is("13: fault", -10 - 36, Due.rules(x, "sing 31;pair 3 4;dry 5 6;hear 0 0;  ?"));
        due.is("14: fault", 1, x.fault());
        due.is("15: sing stays", 30, x.rule(0));
        due.is("15: pair stays", 4, x.rule(31));
        due.is("15: no new pair", 0, x.rule(33));
        due.is("15: hear stays", 64, x.rule(15));
        due.is("15: no new hear", 0, x.rule(10));
        x.feed(0);
        due.is("14: fault stays till the next", 1, x.fault());
        x.end(0);
        due.is("13: the next", 0, x.rules());
        due.is("14: no fault", 0, x.fault());
        due.is("15: as told at first", 12, x.rule(0));
    }
}

/** Promises 11 to 15, sentence by sentence: the tape, its texts and their faults, what holds. */
public final class RulesEdgesTest {
    private static final int BAD = -1, FULL = -3, NONE = -4;
    private static final long BLANKS = 0x2020202020202020L;
    private static final Due due = new Due("RulesEdgesTest");

    public static void main(String[] args) {
        feed();
        end();
        taken();
        tokens();
        noToken();
        notThere();
        outOfBounds();
        again();
        firstMet();
        refused();
        fault();
        rule();
        due.close();
    }

    private static void feed() {
        WaysSung x = new WaysSung();
        due.of(11, "how many it has");
        for (int bytes = 8; bytes <= 200; bytes += 8) {
            due.is("feed", bytes, x.feed(BLANKS));
        }
        due.of(11, "FULL: more than 200");
        due.is("to 208", FULL, x.feed(0));
        due.is("refused: bytes", 200, x.count(6));
        x.end(199);
        due.is("to 207", FULL, x.feed(0));
        x.end(193);
        due.is("to 201", FULL, x.feed(0));
        due.is("refused: bytes", 193, x.count(6));
        x.end(192);
        due.is("to 200", 200, x.feed(BLANKS));
        due.is("refused: still blanks alone", 0, x.rules());
        due.of(11, "Eight bytes come behind THE TAPE, the highest first");
        x.feed(0x73696e6720373b20L);
        x.end(7);
        due.is("behind seven", 15, x.feed(0x74656c6c2038393bL));
        due.is("sing 7;tell 89;", 2, x.rules());
        due.is("sing", 7, x.rule(0));
        due.is("tell", 89, x.rule(1));
        due.is("all bits", 8, x.feed(-1L));
        due.is("byte 255 is no letter", -10, x.rules());
        x.feed(0x2020202020202000L);
        due.is("the lowest comes last", -17, x.rules());
        x.feed(Long.MIN_VALUE | BLANKS);
        due.is("the highest comes first", -10, x.rules());
    }

    private static void end() {
        WaysSung x = new WaysSung();
        due.of(12, "BAD: n is not as told");
        due.is("an empty tape has no first byte", BAD, x.end(1));
        due.is("none of none", 0, x.end(0));
        Due.text(x, "sing 1;sing 2;");
        for (int n : Due.outside(0, 14)) {
            due.is("end " + n, BAD, x.end(n));
        }
        due.is("refused: bytes", 14, x.count(6));
        due.of(12, "THE TAPE keeps its first n bytes: how many it had");
        due.is("all of them", 14, x.end(14));
        due.is("seven of them", 14, x.end(7));
        due.is("those behind are gone", BAD, x.end(8));
        due.is("the first seven", 1, x.rules());
        due.is("the first seven", 1, x.rule(0));
        Due.text(x, "sing 1;sing 2;");
        due.is("none of them", 14, x.end(0));
        due.is("nothing", 0, x.rules());
        for (int i = 0; i < 25; i++) {
            x.feed(BLANKS);
        }
        due.is("200 of 200", 200, x.end(200));
        due.is("201 of 200", BAD, x.end(201));
    }

    /** Whether a text is taken as so many lines. */
    private static WaysSung takes(String text, int lines) {
        WaysSung x = new WaysSung();
        due.is(text, lines, Due.rules(x, text));
        due.is("fault of " + text, 0, x.fault());
        due.is("tape behind " + text, 0, x.count(6));
        return x;
    }

    private static void taken() {
        due.of(13, "text: { line }: how many lines");
        takes("", 0);
        takes(" ", 0);
        takes(" ".repeat(200), 0);
        takes("sing 1;", 1);
        takes("sing 1;tell 2;carry 3;hear 0 0;dry 0 0;pair 0 1;", 6);
        StringBuilder full = new StringBuilder();
        for (int i = 0; i < 25; i++) {
            full.append("hear").append(i / 8).append(' ').append(i % 8).append(';');
        }
        WaysSung x = takes(full.toString(), 25);
        due.is("the first of 25 lines", 255, x.rule(10));
        due.is("the last of 25 lines", 1, x.rule(13));
        due.of(13, "A text that is taken tells all RULES, in place of what there was");
        x = takes("hear 1 2;sing 5;tell 6;carry 7;dry 0 0;pair 3 4;", 6);
        x.place(0, 15);
        due.is("an empty text", 0, x.rules());
        int[] at = {0, 1, 2, 11, 33, 34};
        int[] atFirst = {12, 20, 3, 0, 0, 0};
        for (int i = 0; i < at.length; i++) {
            due.is("rule " + at[i], atFirst[i], x.rule(at[i]));
        }
        due.is("dry no more", NONE, x.placeOf(0, 3));
        Due.rules(x, "pair 0 23;hear 0 0;hear 7 7;dry 11 0;");
        for (int text = 1; text < 4; text++) {
            x.rules();
            for (int what : new int[] {10, 17, 30, 53}) {
                due.is("empty text " + text + ", rule " + what, 0, x.rule(what));
            }
        }
        for (int p = 1; p < 12; p++) {
            x.place(0, 15);
        }
        due.is("the last is dry no more", NONE, x.placeOf(11, 3));
        Due.rules(x, "sing 5;hear 1 2;dry 0 1;pair 3 4;");
        due.is("the same again in another text", 4, Due.rules(x, "sing 5;hear 1 2;dry 0 1;pair 3 4;"));
        due.of(13, "THE TAPE (empty then)");
        due.is("taken", 0, x.count(6));
        Due.text(x, "sing");
        due.is("not taken", -14, x.rules());
        due.is("not taken", 0, x.count(6));
        due.is("nothing is left of it", 0, x.rules());
    }

    private static void tokens() {
        due.of(13, "TOKENS, each as long as may be, blanks (32) between");
        takes("sing1;tell2;", 2);
        takes("  sing   1  ;  tell  2  ;  ", 2);
        takes("hear1 2;", 1);
        refuses("hear 12;", 5, 3);
        refuses("singtell 1;", 0, 1);
        refuses("singa 1;", 0, 1);
        refuses("singz 1;", 0, 1);
        refuses("sing 1a;", 6, 1);
        refuses("sing 129;", 5, 1);
        refuses("sing 120;", 5, 1);
        refuses("sing tell 1;", 5, 2);
        refuses("sing 1 2;", 7, 2);
        refuses("sing 1\n;", 6, 1);
        refuses("\tsing 1;", 0, 1);
        refuses("sing 1" + (char) 0 + ";", 6, 1);
        refuses("sing 1;" + (char) 160, 7, 1);
        due.of(13, "NUMBERS (1 or 2 figures)");
        due.is("one figure", 9, takes("sing 9;", 1).rule(0));
        due.is("two figures", 10, takes("sing 10;", 1).rule(0));
        due.is("a 0 ahead", 9, takes("sing 09;", 1).rule(0));
        due.is("two 0", 0, takes("sing 00;", 1).rule(0));
        refuses("sing 009;", 5, 1);
        due.of(13, "NAMES (a .. z)");
        refuses("Sing 1;", 0, 1);
        refuses("sinG 1;", 0, 1);
        refuses("sing` 1;", 4, 1);
        refuses("sing{ 1;", 4, 1);
        refuses("`", 0, 1);
        refuses("{", 0, 1);
        refuses("sing /;", 5, 1);
        refuses("sing :;", 5, 1);
        due.of(13, "one ;");
        refuses("sing 1;;", 7, 2);
        refuses("sing 1:", 6, 1);
        refuses("sing 1<", 6, 1);
    }

    /** Whether a text has that fault at that place. */
    private static void refuses(String text, int place, int kind) {
        WaysSung x = new WaysSung();
        due.is(text, -10 - place, Due.rules(x, text));
        due.is("fault of " + text, kind, x.fault());
        due.is("tape behind " + text, 0, x.count(6));
    }

    private static void noToken() {
        due.of(13, "1 no TOKEN");
        for (int b = 0; b < 256; b++) {
            boolean token = b == ' ' || b == ';' || b >= '0' && b <= '9' || b >= 'a' && b <= 'z';
            if (!token) {
                refuses("sing 1;" + (char) b, 7, 1);
            }
        }
        refuses("!", 0, 1);
        refuses(" ".repeat(199) + "!", 199, 1);
        due.of(13, "1 a NAME that is none of these (its first byte)");
        for (String name : new String[] {"s", "sin", "sings", "ssing", "dr", "drys", "dryx", "hea", "hears",
            "tel", "tells", "carr", "carrya", "pai", "pairs", "a", "z", "zing", "sint", "xing"}) {
            refuses("  " + name + " 1 1;", 2, 1);
        }
        refuses("sing foo;", 5, 1);
        refuses("sing 1 foo", 7, 1);
        refuses("a".repeat(200), 0, 1);
        due.of(13, "1 a NUMBER that is too long (its first byte)");
        refuses("sing 100;", 5, 1);
        refuses("sing 000;", 5, 1);
        refuses("sing 1 234", 7, 1);
        refuses("123", 0, 1);
        refuses("9".repeat(200), 0, 1);
        refuses("sing 4294967297;", 5, 1);
    }

    private static void notThere() {
        due.of(13, "2 a TOKEN that can not stand there");
        refuses(";", 0, 2);
        refuses("1", 0, 2);
        refuses("sing 1;2", 7, 2);
        for (String name : new String[] {"sing", "tell", "carry"}) {
            int n = name.length();
            refuses(name + ";", n, 2);
            refuses(name + " dry;", n + 1, 2);
            refuses(name + " 1 1;", n + 3, 2);
            refuses(name + " 1 dry;", n + 3, 2);
        }
        for (String name : new String[] {"hear", "dry", "pair"}) {
            int n = name.length();
            refuses(name + ";", n, 2);
            refuses(name + " sing", n + 1, 2);
            refuses(name + " 1;", n + 2, 2);
            refuses(name + " 1 sing", n + 3, 2);
            refuses(name + " 1 2 3;", n + 5, 2);
            refuses(name + " 1 2 sing", n + 5, 2);
        }
        due.of(13, "2 (or the end: the length)");
        for (String name : new String[] {"sing", "tell", "carry", "hear", "dry", "pair"}) {
            refuses(name, name.length(), 2);
            refuses(name + "   ", name.length() + 3, 2);
            refuses(name + " 1", name.length() + 2, 2);
            refuses(name + " 1 ", name.length() + 3, 2);
        }
        refuses("pair 1 2", 8, 2);
        refuses("pair 1 2 ", 9, 2);
        refuses(" ".repeat(196) + "sing", 200, 2);
        refuses("sing 12" + " ".repeat(193), 200, 2);
    }

    /** Whether numbers up to most are taken behind that much of a line, and no other ones. */
    private static void bounds(String ahead, String behind, int least, int most) {
        takes(ahead + least + behind, 1);
        takes(ahead + most + behind, 1);
        if (least > 0) {
            refuses(ahead + (least - 1) + behind, ahead.length(), 3);
        }
        if (most < 99) {
            refuses(ahead + (most + 1) + behind, ahead.length(), 3);
            refuses(ahead + 99 + behind, ahead.length(), 3);
        }
    }

    private static void outOfBounds() {
        due.of(13, "3 a NUMBER out of its bounds: hear: KINS (0 to 7)");
        bounds("hear ", " 3;", 0, 7);
        bounds("hear 3 ", ";", 0, 7);
        due.of(13, "3 sing, tell (0 to 99)");
        bounds("sing ", ";", 0, 99);
        bounds("tell ", ";", 0, 99);
        due.of(13, "3 carry (1 to 20)");
        bounds("carry ", ";", 1, 20);
        due.of(13, "3 dry: a PLACE (0 to 11), since a YEAR");
        bounds("dry ", " 5;", 0, 11);
        bounds("dry 5 ", ";", 0, 99);
        due.of(13, "3 pair: two unlike VERSES (0 to 23)");
        bounds("pair ", " 5;", 0, 23);
        bounds("pair 5 ", ";", 0, 23);
        due.of(13, "3 pair: the second one like the first");
        refuses("pair 0 0;", 7, 3);
        refuses("pair 5 05;", 7, 3);
        refuses("pair 23 23;", 8, 3);
        takes("hear 5 5;", 1);
        takes("dry 5 5;", 1);
    }

    private static void again() {
        due.of(13, "4 sing, tell, carry for the second time (its NAME)");
        refuses("sing 1;sing 1;", 7, 4);
        refuses("tell 1;sing 1;tell 2;", 14, 4);
        refuses("carry 1;carry", 8, 4);
        refuses("carry 1; carry ?", 9, 4);
        takes("sing 1;tell 1;carry 1;", 3);
        due.of(13, "4 a PLACE that is dry already (its NUMBER)");
        refuses("dry 0 1;dry 0 2;", 12, 4);
        refuses("dry 11 1;dry 0 1;dry 11 2;", 21, 4);
        refuses("dry 3 1;dry  03", 13, 4);
        takes("dry 3 1;dry 1 3;", 2);
        due.of(13, "4 hear: those two again (the second NUMBER)");
        refuses("hear 0 0;hear 0 0;", 16, 4);
        refuses("hear 1 7;hear 01 07;", 17, 4);
        takes("hear 1 2;hear 2 1;hear 1 1;hear 2 2;", 4);
        due.of(13, "4 pair: those two again, in either order (the second NUMBER)");
        refuses("pair 0 23;pair 0 23;", 17, 4);
        refuses("pair 0 23;pair 23 0;", 18, 4);
        takes("pair 0 1;pair 1 2;pair 2 0;", 3);
    }

    private static void firstMet() {
        due.of(13, "the first met as it is read (a TOKEN is read when the one before has been taken)");
        refuses("; foo", 0, 2);
        refuses("foo ;", 0, 1);
        refuses("sing ; 100", 5, 2);
        refuses("hear 8 foo", 5, 3);
        refuses("hear 8 100", 5, 3);
        refuses("hear 8;", 5, 3);
        refuses("hear 0 8!", 7, 3);
        refuses("sing 1;sing foo", 7, 4);
        refuses("sing 1;sing", 7, 4);
        refuses("carry 1;carry 0;", 8, 4);
        refuses("dry 1 1;dry 1 foo", 12, 4);
        refuses("dry 1 1;dry 1", 12, 4);
        refuses("dry 1 1;dry 1;", 12, 4);
        refuses("dry 12 100;", 4, 3);
        refuses("hear 1 2;hear 1 2?", 16, 4);
        refuses("hear 1 2;hear 1 2", 16, 4);
        refuses("pair 1 2;pair 2 1 foo", 16, 4);
        refuses("pair 24 24;", 5, 3);
        refuses("pair 2 24;", 7, 3);
        refuses("pair 2 2", 7, 3);
        refuses("sing foo 100", 5, 1);
    }

    private static void refused() {
        due.of(13, "those that were told stay");
        String[] faults = {"?", ";", "hear 8 8;", "tell 1;"};
        int[] kinds = {1, 2, 3, 4};
        for (int i = 0; i < faults.length; i++) {
            WaysSung x = new WaysSung();
            for (int p = 0; p < 6; p++) {
                x.place(0, 15);
            }
            Due.rules(x, "sing 30;tell 40;carry 9;hear 1 2;pair 3 4;dry 5 6;");
            String text = "sing 1;tell 2;carry 3;hear 0 0;pair 0 1;dry 0 0;";
            due.is(faults[i], -10 - text.length() - (i == 2 ? 5 : 0), Due.rules(x, text + faults[i]));
            due.is("fault", kinds[i], x.fault());
            int[] at = {0, 1, 2, 10, 11, 30, 31, 33, 34};
            int[] before = {30, 40, 9, 0, 4, 0, 0, 16, 8};
            for (int j = 0; j < at.length; j++) {
                due.is("rule " + at[j], before[j], x.rule(at[j]));
            }
            due.is("dry", 6, x.placeOf(5, 3));
            due.is("not dry", NONE, x.placeOf(0, 3));
            due.is("what was refused is not held against the next text", 2, Due.rules(x, "sing 1;hear 0 0;"));
        }
    }

    private static void fault() {
        due.of(14, "The FAULT of the latest rules(); 0");
        WaysSung x = new WaysSung();
        due.is("none yet", 0, x.fault());
        String[] texts = {"?", ";", "hear 8", "dry 1 1;dry 1", "", "?", "sing 1;"};
        int[] kinds = {1, 2, 3, 4, 0, 1, 0};
        for (int i = 0; i < texts.length; i++) {
            Due.text(x, texts[i]);
            due.is("till " + texts[i] + " is read", i == 0 ? 0 : kinds[i - 1], x.fault());
            x.rules();
            due.is("of " + texts[i], kinds[i], x.fault());
            due.is("asked again", kinds[i], x.fault());
        }
        Due.rules(x, ";");
        x.end(-1);
        x.feed(0);
        x.end(0);
        x.rule(99);
        due.is("other calls leave it", 2, x.fault());
    }

    private static void rule() {
        WaysSung x = takes("hear 0 7;hear 7 0;pair 0 23;pair 22 23;sing 0;tell 99;carry 20;", 7);
        due.of(15, "0 sing, 1 tell, 2 carry");
        due.is("sing", 0, x.rule(0));
        due.is("tell", 99, x.rule(1));
        due.is("carry", 20, x.rule(2));
        due.of(15, "10 and k: KINS that may hear what KIN k holds (bits)");
        due.is("kin 0", 128, x.rule(10));
        due.is("kin 7", 1, x.rule(17));
        due.is("one's own kin is not told", 0, x.rule(13));
        due.of(15, "30 and v: VERSES that are a pair with VERSE v (bits)");
        due.is("verse 0", 1 << 23, x.rule(30));
        due.is("verse 22", 1 << 23, x.rule(52));
        due.is("verse 23", 1 | 1 << 22, x.rule(53));
        due.is("verse 1", 0, x.rule(31));
        due.of(15, "BAD");
        for (int what : new int[] {Integer.MIN_VALUE, -1, 3, 4, 9, 18, 19, 29, 54, 55, Integer.MAX_VALUE}) {
            due.is("rule " + what, BAD, x.rule(what));
        }
    }
}

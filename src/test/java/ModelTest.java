import java.util.Random;

/** Long runs of calls on the class and on the plain model; each answer must be the same. */
public final class ModelTest {
    private static final String[] NAMES = {"hear", "sing", "tell", "carry", "dry", "pair", "his", "sing"};
    private static final Due due = new Due("ModelTest");

    private final Random random;
    private final WaysSung x = new WaysSung();
    private final Model m = new Model();
    private final String run;
    private final boolean longSteps;

    private ModelTest(int seed) {
        random = new Random(seed);
        longSteps = random.nextInt(3) == 0;
        run = "run " + seed + " ";
    }

    public static void main(String[] args) {
        for (int seed = 1; seed <= 250; seed++) {
            new ModelTest(seed).play();
        }
        due.close();
    }

    private void play() {
        people();
        if (longSteps) {
            Due.text(x, "carry 20;");
            m.tape = "carry 20;";
            is("rules", 0, 0, 0, m.rules(), x.rules());
        }
        int calls = 100 + random.nextInt(300);
        for (int i = 0; i < calls; i++) {
            call(random.nextInt(41));
        }
    }

    /** A land with something in it, so that most calls have something to find. */
    private void people() {
        boolean full = random.nextInt(3) == 0;
        for (int i = full ? 20 : random.nextInt(12); i >= 0; i--) {
            build(0);
        }
        for (int i = full ? 40 : random.nextInt(26); i >= 0; i--) {
            build(1);
        }
        for (int i = full ? 14 : random.nextInt(9); i >= 0; i--) {
            build(2);
        }
        for (int i = random.nextInt(120); i >= 0; i--) {
            int who = near(x.count(2));
            int v = near(x.count(1));
            is("has", who, v, 1, m.has(who, v, true), x.has(who, v, true));
        }
    }

    /** Mostly a number below the bound, at times just outside. */
    private int near(int bound) {
        int n = random.nextInt(30);
        return n == 0 ? -1 : n == 1 ? bound : random.nextInt(Math.max(1, bound));
    }

    private int bits(int size) {
        return random.nextInt(3) == 0 ? (1 << size) - 1 : near(1 << size);
    }

    private void is(String name, int a, int b, int c, int want, int got) {
        due.is(run + name + "(" + a + ", " + b + ", " + c + ")", want, got);
    }

    private void build(int what) {
        int a = near(what == 0 ? 10 : what == 1 ? 4 : random.nextBoolean() ? 3 : 8);
        if (what == 0) {
            int water = near(16);
            is("place", a, water, 0, m.place(a, water), x.place(a, water));
        } else if (what == 1) {
            int p = near(x.count(0));
            int tongue = near(random.nextBoolean() ? 3 : 9);
            int days = random.nextBoolean() ? 1 : near(longSteps ? 10 : 5);
            int held = random.nextInt(3) > 0 ? -4 : near(random.nextBoolean() ? 3 : 8);
            is("verse", a, p, days, m.verse(a, p, tongue, days, held), x.verse(a, p, tongue, days, held));
        } else {
            int age = near(100);
            int tongues = bits(9);
            is("one", a, age, tongues, m.one(a, age, tongues), x.one(a, age, tongues));
        }
    }

    private void call(int which) {
        int places = x.count(0);
        int verses = x.count(1);
        int people = x.count(2);
        int who = near(people);
        int whom = near(people);
        int v = near(verses);
        int p = near(places);
        int q = near(places);
        int song = near(4);
        int set = bits(people);
        int shut = bits(places);
        int two = near(2);
        switch (which) {
            case 0, 1, 2: build(which); break;
            case 3: is("has", who, v, two, m.has(who, v, two == 1), x.has(who, v, two == 1)); break;
            case 4: rarely(who); break;
            case 5: time(); break;
            case 6: each("placeOf", p); break;
            case 7: each("verseOf", v); break;
            case 8: each("oneOf", who); break;
            case 9: text(); break;
            case 10: bytes(); break;
            case 11: is("rules", 0, 0, 0, m.rules(), x.rules()); break;
            case 12: is("fault", 0, 0, 0, m.fault(), x.fault()); break;
            case 13: int r = near(56); is("rule", r, 0, 0, m.rule(r), x.rule(r)); break;
            case 14: is("may", who, two, 0, m.may(who, two), x.may(who, two)); break;
            case 15: int four = near(4); is("asks", who, song, four, m.asks(who, song, four), x.asks(who, song, four)); break;
            case 16: is("led", set, 0, 0, m.led(set), x.led(set)); break;
            case 17: is("need", song, 0, 0, m.need(song), x.need(song)); break;
            case 18, 19: is("way", set, p, q, m.way(set, p, q), x.way(set, p, q)); break;
            case 20: is("wanting", set, p, q, m.wanting(set, p, q), x.wanting(set, p, q)); break;
            case 21: is("reach", set, p, 0, m.reach(set, p), x.reach(set, p)); break;
            case 22: party(p, q, two); break;
            case 23: is("cut", shut, two, 0, m.cut(shut, two), x.cut(shut, two)); break;
            case 24: is("cutTold", who, shut, two, m.cutTold(who, shut, two), x.cutTold(who, shut, two)); break;
            case 25: is("tune", song, 0, 0, m.tune(song), x.tune(song)); break;
            case 26: where(); break;
            case 27: is("sure", v, 0, 0, m.sure(v), x.sure(v)); break;
            case 28: int k = 1 + near(5); is("faster", song, k, two, m.faster(song, k, two), x.faster(song, k, two)); break;
            case 29: int other = near(4); is("cross", song, other, two, m.cross(song, other, two), x.cross(song, other, two)); break;
            case 30: int three = near(3); is("soon", three, 0, 0, m.soon(three), x.soon(three)); break;
            case 31: is("can", who, whom, v, m.can(who, whom, v), x.can(who, whom, v)); break;
            case 32: is("teach", who, whom, v, m.teach(who, whom, v), x.teach(who, whom, v)); break;
            case 33: int years = near(11); is("keep", years, 0, 0, m.keep(years), x.keep(years)); break;
            case 34: int songs = near(16); is("map", songs, two, 0, m.map(songs, two), x.map(songs, two)); break;
            case 35: sheet(); break;
            case 36, 37: lay(); break;
            case 38: read(who); break;
            case 39: is("torn", 0, 0, 0, m.torn(), x.torn()); break;
            default: int what = near(8); is("count", what, 0, 0, m.count(what), x.count(what)); break;
        }
    }

    private void each(String name, int n) {
        for (int what = -1; what < 8; what++) {
            switch (name) {
                case "placeOf": is(name, n, what, 0, m.placeOf(n, what), x.placeOf(n, what)); break;
                case "verseOf": is(name, n, what, 0, m.verseOf(n, what), x.verseOf(n, what)); break;
                default: is(name, n, what, 0, m.oneOf(n, what), x.oneOf(n, what)); break;
            }
        }
    }

    private void rarely(int who) {
        if (random.nextInt(4) == 0) {
            is("dies", who, 0, 0, m.dies(who), x.dies(who));
        }
    }

    private void time() {
        int y = x.count(4) + random.nextInt(6) - 1;
        int s = near(4);
        is("now", y, s, 0, m.now(y, s), x.now(y, s));
    }

    private void party(int p, int q, int two) {
        if (random.nextInt(4) == 0) {
            is("party", p, q, two, m.party(p, q, two), x.party(p, q, two));
        }
    }

    private void where() {
        int steps = random.nextInt(3) == 0 ? near(10) : 1 + near(3);
        int most = (int) Math.pow(3, Math.max(0, Math.min(8, steps)));
        int piece = near(most);
        int what = near(3);
        is("where", steps, piece, what, m.where(steps, piece, what), x.where(steps, piece, what));
    }

    private String number(int bound) {
        int n = random.nextInt(12) == 0 ? random.nextInt(130) : random.nextInt(bound);
        return random.nextInt(10) == 0 ? "0" + n : "" + n;
    }

    private String line() {
        String name = NAMES[random.nextInt(random.nextInt(9) == 0 ? 8 : 6)];
        int bound = name.equals("hear") ? 8 : name.equals("pair") ? 24 : name.equals("dry") ? 12 : 20;
        String line = name + " " + number(bound);
        if (bound != 20 || random.nextInt(20) == 0) {
            line += " " + number(bound);
        }
        line += random.nextInt(25) == 0 ? "" : ";";
        if (random.nextInt(15) == 0) {
            int at = random.nextInt(line.length());
            line = line.substring(0, at) + " ;,A{`/:a0z9".charAt(random.nextInt(12)) + line.substring(at);
        }
        return random.nextInt(3) == 0 ? " " + line + "  " : line;
    }

    private void text() {
        StringBuilder text = new StringBuilder(longSteps ? "carry " + (5 + random.nextInt(16)) + ";" : "");
        for (int i = random.nextInt(7); i >= 0; i--) {
            text.append(line());
        }
        if (random.nextInt(8) == 0) {
            text.setLength(random.nextInt(text.length()));
        }
        int most = Math.min(text.length(), 200 - x.count(6));
        Due.text(x, text.substring(0, most));
        m.tape += text.substring(0, most);
        // The model's tape was written directly: the class's length may be short by the last few.
        m.tape = m.tape.substring(0, Math.min(m.tape.length(), x.count(6)));
        is("count of tape", 6, 0, 0, m.count(6), x.count(6));
        if (random.nextInt(5) > 0) {
            is("rules of " + text, 0, 0, 0, m.rules(), x.rules());
            is("fault of " + text, 0, 0, 0, m.fault(), x.fault());
            for (int what = -1; what < 55; what++) {
                is("rule", what, 0, 0, m.rule(what), x.rule(what));
            }
        }
    }

    private void bytes() {
        long v = random.nextInt(4) == 0 ? random.nextLong() : 0x2020203b20202020L;
        is("feed", 0, 0, 0, m.feed(v), x.feed(v));
        int n = x.count(6) - random.nextInt(12) + 1;
        is("end", n, 0, 0, m.end(n), x.end(n));
    }

    private void sheet() {
        int k = near(4);
        int lane = near(3);
        int n = near(41);
        is("sheet", k, lane, n, m.sheet(k, lane, n), x.sheet(k, lane, n));
    }

    private void lay() {
        int k = near(4);
        for (int i = -1; i < 12; i++) {
            int v = near(x.count(1)) + (random.nextInt(6) == 0 ? random.nextInt() << 8 : 0);
            is("lay", k, i, v, m.lay(k, i, v), x.lay(k, i, v));
        }
    }

    private void read(int who) {
        int k = near(4);
        int lane = near(3);
        int f = near(20);
        int n = near(random.nextBoolean() ? 4 : 25);
        is("read", who, k, n, m.read(who, k, lane, f, n), x.read(who, k, lane, f, n));
        is("torn", 0, 0, 0, m.torn(), x.torn());
        is("had", who, 3, 0, m.oneOf(who, 3), x.oneOf(who, 3));
    }
}

import java.util.ArrayList;
import java.util.Arrays;
import java.util.List;
import java.util.TreeMap;
import java.util.TreeSet;
import java.util.regex.Matcher;
import java.util.regex.Pattern;

/** The document once more, as plainly as may be: slow, with the Java library, apart from the class. */
final class Model {
    static final int BAD = -1, STATE = -2, FULL = -3, NONE = -4;

    record Place(int height, int water) { }

    record Verse(int number, int song, int place, int tongue, int days, int held) { }

    static final class One {
        int kin;
        int age;
        int came;
        int tongues;
        boolean lives = true;
        TreeSet<Integer> has = new TreeSet<>();
    }

    static final class Told {
        int sing = 12;
        int tell = 20;
        int carry = 3;
        TreeSet<String> hear = new TreeSet<>();
        TreeSet<String> pair = new TreeSet<>();
        TreeMap<Integer, Integer> dry = new TreeMap<>();
    }

    final List<Place> places = new ArrayList<>();
    final List<Verse> verses = new ArrayList<>();
    final List<One> people = new ArrayList<>();
    final Object[] sheets = new Object[4];
    Told told = new Told();
    String tape = "";
    int year;
    int season;
    int fault;
    int torn;

    static boolean no(int n, int bound) {
        return n < 0 || n >= bound;
    }

    boolean noPlace(int p) {
        return no(p, places.size());
    }

    boolean noVerse(int v) {
        return no(v, verses.size());
    }

    boolean noOne(int who) {
        return no(who, people.size());
    }

    boolean noSet(int set) {
        return no(set, 1 << people.size());
    }

    List<Verse> song(int s) {
        List<Verse> found = new ArrayList<>();
        for (Verse v : verses) {
            if (v.song == s) {
                found.add(v);
            }
        }
        return found;
    }

    // ---- the land, songs, people

    int place(int height, int water) {
        if (no(height, 10) || no(water, 16)) {
            return BAD;
        }
        if (places.size() == 12) {
            return FULL;
        }
        places.add(new Place(height, water));
        return places.size() - 1;
    }

    int verse(int song, int place, int tongue, int days, int held) {
        if (no(song, 4) || noPlace(place) || no(tongue, 9) || held != NONE && no(held, 8)) {
            return BAD;
        }
        boolean first = song(song).isEmpty();
        if (!first && no(days - 1, 9)) {
            return BAD;
        }
        if (verses.size() == 24) {
            return FULL;
        }
        verses.add(new Verse(verses.size(), song, place, tongue, first ? 0 : days, held));
        return verses.size() - 1;
    }

    int one(int kin, int age, int tongues) {
        if (no(kin, 8) || no(age, 100) || no(tongues, 512)) {
            return BAD;
        }
        if (people.size() == 8) {
            return FULL;
        }
        One one = new One();
        one.kin = kin;
        one.age = age;
        one.came = year;
        one.tongues = tongues;
        people.add(one);
        return people.size() - 1;
    }

    int has(int who, int verse, boolean is) {
        if (noOne(who) || noVerse(verse)) {
            return BAD;
        }
        if (!people.get(who).lives) {
            return STATE;
        }
        TreeSet<Integer> has = people.get(who).has;
        int was = has.contains(verse) ? 1 : 0;
        if (is) {
            has.add(verse);
        } else {
            has.remove(verse);
        }
        return was;
    }

    int dies(int who) {
        if (noOne(who)) {
            return BAD;
        }
        if (!people.get(who).lives) {
            return STATE;
        }
        int without = soon(2);
        people.get(who).lives = false;
        return soon(2) - without;
    }

    int now(int y, int s) {
        if (y < year || y > 99 || no(s, 4)) {
            return BAD;
        }
        int was = year;
        year = y;
        season = s;
        return was;
    }

    boolean hasWater(int p) {
        Integer since = told.dry.get(p);
        return (places.get(p).water & 1 << season) != 0 && (since == null || since > year);
    }

    int placeOf(int p, int what) {
        if (noPlace(p) || no(what, 5)) {
            return BAD;
        }
        int songs = 0;
        for (Verse v : verses) {
            songs |= v.place == p ? 1 << v.song : 0;
        }
        return switch (what) {
            case 0 -> places.get(p).height;
            case 1 -> places.get(p).water;
            case 2 -> hasWater(p) ? 1 : 0;
            case 3 -> told.dry.getOrDefault(p, NONE);
            default -> songs;
        };
    }

    int heads(int v) {
        int heads = 0;
        for (One one : people) {
            heads += one.lives && one.has.contains(v) ? 1 : 0;
        }
        return heads;
    }

    int verseOf(int v, int what) {
        if (noVerse(v) || no(what, 7)) {
            return BAD;
        }
        Verse verse = verses.get(v);
        return switch (what) {
            case 0 -> verse.song;
            case 1 -> verse.place;
            case 2 -> verse.tongue;
            case 3 -> verse.days;
            case 4 -> verse.held;
            case 5 -> song(verse.song).indexOf(verse);
            default -> heads(v);
        };
    }

    int age(One one) {
        return one.age + year - one.came;
    }

    int oneOf(int who, int what) {
        if (noOne(who) || no(what, 4)) {
            return BAD;
        }
        One one = people.get(who);
        return switch (what) {
            case 0 -> one.kin;
            case 1 -> one.lives ? age(one) : NONE;
            case 2 -> one.tongues;
            default -> bits(one.has);
        };
    }

    static int bits(Iterable<Integer> numbers) {
        int bits = 0;
        for (int n : numbers) {
            bits |= 1 << n;
        }
        return bits;
    }

    // ---- rules

    int feed(long v) {
        if (tape.length() > 192) {
            return FULL;
        }
        for (int i = 7; i >= 0; i--) {
            tape += (char) (v >>> 8 * i & 255);
        }
        return tape.length();
    }

    int end(int n) {
        if (n < 0 || n > tape.length()) {
            return BAD;
        }
        int was = tape.length();
        tape = tape.substring(0, n);
        return was;
    }

    static final class Fault extends Exception {
        private static final long serialVersionUID = 1;
        final int kind;
        final int at;

        Fault(int kind, int at) {
            this.kind = kind;
            this.at = at;
        }
    }

    private static final Pattern TOKEN = Pattern.compile("\\G *([a-z]+|[0-9]+|;)");
    private static final List<String> NAMES = List.of("hear", "sing", "tell", "carry", "dry", "pair");
    private Matcher tokens;
    private int behind;
    private int at;

    private String token() throws Fault {
        if (!tokens.find(behind)) {
            int i = behind;
            while (i < tape.length() && tape.charAt(i) == 32) {
                i++;
            }
            at = tape.length();
            if (i < tape.length()) {
                throw new Fault(1, i);
            }
            return "";
        }
        behind = tokens.end();
        at = tokens.start(1);
        String token = tokens.group(1);
        boolean name = token.matches("[a-z]+") && !NAMES.contains(token);
        if (name || token.matches("[0-9]{3,}")) {
            throw new Fault(1, at);
        }
        return token;
    }

    private int number(int least, int most) throws Fault {
        String token = token();
        if (!token.matches("[0-9]+")) {
            throw new Fault(2, at);
        }
        int n = Integer.parseInt(token);
        if (n < least || n > most) {
            throw new Fault(3, at);
        }
        return n;
    }

    private void line(Told into, String name, TreeSet<String> once) throws Fault {
        if (!NAMES.contains(name)) {
            throw new Fault(2, at);
        }
        if (List.of("sing", "tell", "carry").contains(name) && !once.add(name)) {
            throw new Fault(4, at);
        }
        switch (name) {
            case "sing" -> into.sing = number(0, 99);
            case "tell" -> into.tell = number(0, 99);
            case "carry" -> into.carry = number(1, 20);
            case "dry" -> {
                int p = number(0, 11);
                if (into.dry.containsKey(p)) {
                    throw new Fault(4, at);
                }
                into.dry.put(p, number(0, 99));
            }
            case "hear" -> {
                int a = number(0, 7);
                int b = number(0, 7);
                if (!into.hear.add(a + " " + b)) {
                    throw new Fault(4, at);
                }
            }
            default -> {
                int a = number(0, 23);
                int b = number(0, 23);
                if (a == b) {
                    throw new Fault(3, at);
                }
                if (!into.pair.add(Math.min(a, b) + " " + Math.max(a, b))) {
                    throw new Fault(4, at);
                }
            }
        }
        if (!token().equals(";")) {
            throw new Fault(2, at);
        }
    }

    int rules() {
        Told into = new Told();
        TreeSet<String> once = new TreeSet<>();
        tokens = TOKEN.matcher(tape);
        behind = 0;
        int lines = 0;
        try {
            for (String name = token(); !name.isEmpty(); name = token()) {
                line(into, name, once);
                lines++;
            }
            told = into;
            fault = 0;
            return lines;
        } catch (Fault f) {
            fault = f.kind;
            return -10 - f.at;
        } finally {
            tape = "";
        }
    }

    int fault() {
        return fault;
    }

    boolean paired(int a, int b) {
        return told.pair.contains(Math.min(a, b) + " " + Math.max(a, b));
    }

    int rule(int what) {
        int bits = 0;
        if (what == 0) {
            return told.sing;
        } else if (what == 1) {
            return told.tell;
        } else if (what == 2) {
            return told.carry;
        } else if (what >= 10 && what <= 17) {
            for (int k = 0; k < 8; k++) {
                bits |= told.hear.contains((what - 10) + " " + k) ? 1 << k : 0;
            }
            return bits;
        } else if (what >= 30 && what <= 53) {
            for (int v = 0; v < 24; v++) {
                bits |= paired(what - 30, v) ? 1 << v : 0;
            }
            return bits;
        }
        return BAD;
    }

    // ---- leave

    boolean mayHear(One one, Verse v) {
        return v.held == NONE || v.held == one.kin || told.hear.contains(v.held + " " + one.kin);
    }

    boolean maySing(One one, Verse v) {
        return (v.held == NONE || v.held == one.kin) && one.has.contains(v.number) && one.lives
            && age(one) >= told.sing;
    }

    int may(int who, int what) {
        if (noOne(who) || no(what, 2)) {
            return BAD;
        }
        int bits = 0;
        for (Verse v : verses) {
            boolean may = what == 0 ? mayHear(people.get(who), v) : maySing(people.get(who), v);
            bits |= may ? 1 << v.number : 0;
        }
        return bits;
    }

    int asks(int who, int song, int what) {
        if (noOne(who) || no(song, 4) || no(what, 4)) {
            return BAD;
        }
        int[] answers = {0, 0, 0, NONE};
        for (Verse v : song(song)) {
            if (!mayHear(people.get(who), v)) {
                answers[1]++;
                continue;
            }
            answers[0] |= 1 << v.number;
            answers[2] |= 1 << v.place;
            boolean speaks = (people.get(who).tongues & 1 << v.tongue) != 0;
            if (!speaks && answers[3] == NONE) {
                answers[3] = v.number;
            }
        }
        return answers[what];
    }

    boolean sung(int set, int v) {
        for (int i = 0; i < people.size(); i++) {
            if ((set & 1 << i) != 0 && v < verses.size() && maySing(people.get(i), verses.get(v))) {
                return true;
            }
        }
        return false;
    }

    int led(int set) {
        if (noSet(set)) {
            return BAD;
        }
        int bits = 0;
        for (int v = 0; v < verses.size(); v++) {
            boolean led = sung(set, v);
            for (int w = 0; w < 24; w++) {
                led &= !paired(v, w) || sung(set, w);
            }
            bits |= led ? 1 << v : 0;
        }
        return bits;
    }

    int need(int song) {
        if (no(song, 4)) {
            return BAD;
        }
        int kins = 0;
        for (Verse v : song(song)) {
            for (Verse w : verses) {
                if ((v == w || paired(v.number, w.number)) && w.held != NONE) {
                    kins |= 1 << w.held;
                }
            }
        }
        return kins;
    }

    // ---- ways

    /** The fewest days by place and days without water, grown till nothing gets better. */
    int days(int led, int from, int to) {
        int[][] best = new int[12][21];
        for (int[] row : best) {
            Arrays.fill(row, 1 << 20);
        }
        best[from][0] = 0;
        boolean better = true;
        while (better) {
            better = false;
            for (Verse v : verses) {
                for (Verse w : verses) {
                    better |= relax(best, led, v, w);
                }
            }
        }
        int least = Arrays.stream(best[to]).min().getAsInt();
        return least == 1 << 20 ? NONE : least;
    }

    private boolean relax(int[][] best, int led, Verse v, Verse w) {
        int gap = v.song == w.song ? verseOf(v.number, 5) - verseOf(w.number, 5) : 0;
        if (Math.abs(gap) != 1 || (led & 1 << v.number) == 0 || (led & 1 << w.number) == 0) {
            return false;
        }
        int days = gap > 0 ? v.days : w.days;
        boolean better = false;
        for (int dry = 0; dry + days <= told.carry; dry++) {
            int then = hasWater(w.place) ? 0 : dry + days;
            if (best[v.place][dry] + days < best[w.place][then]) {
                best[w.place][then] = best[v.place][dry] + days;
                better = true;
            }
        }
        return better;
    }

    int way(int set, int from, int to) {
        return noSet(set) || noPlace(from) || noPlace(to) ? BAD : days(led(set), from, to);
    }

    int wanting(int set, int from, int to) {
        int way = way(set, from, to);
        if (way == BAD || way >= 0) {
            return way == BAD ? BAD : STATE;
        }
        int led = led(set);
        for (int v = 0; v < verses.size(); v++) {
            if ((led & 1 << v) == 0 && days(led | 1 << v, from, to) >= 0) {
                return v;
            }
        }
        return NONE;
    }

    int reach(int set, int from) {
        if (noSet(set) || noPlace(from)) {
            return BAD;
        }
        int bits = 0;
        for (int p = 0; p < places.size(); p++) {
            bits |= way(set, from, p) >= 0 ? 1 << p : 0;
        }
        return bits;
    }

    int party(int from, int to, int what) {
        if (noPlace(from) || noPlace(to) || no(what, 2)) {
            return BAD;
        }
        int best = NONE;
        for (int set = 0; set < 1 << people.size(); set++) {
            boolean fewer = best == NONE || Integer.bitCount(set) < Integer.bitCount(best);
            if (fewer && way(set, from, to) >= 0) {
                best = set;
            }
        }
        return best == NONE ? NONE : what == 0 ? best : way(best, from, to);
    }

    int cut(int shut, int what) {
        if (no(shut, 1 << places.size()) || no(what, 2)) {
            return BAD;
        }
        int bits = 0;
        int songs = 0;
        for (int s = 0; s < 4; s++) {
            List<Verse> song = song(s);
            for (int i = 0; i < song.size(); i++) {
                if ((shut & 1 << song.get(i).place) != 0) {
                    bits |= 1 << song.get(i).number;
                    songs |= i > 0 && i < song.size() - 1 ? 1 << s : 0;
                }
            }
        }
        return what == 0 ? bits : songs;
    }

    int cutTold(int who, int shut, int what) {
        if (noOne(who) || cut(shut, what) == BAD) {
            return BAD;
        }
        int heard = cut(shut, 0) & may(who, 0);
        return what == 0 ? heard : Integer.bitCount(cut(shut, 0)) - Integer.bitCount(heard);
    }

    // ---- tunes

    private String go(Verse v, Verse w) {
        int change = Integer.compare(places.get(w.place).height, places.get(v.place).height);
        return change > 0 ? "1" : change < 0 ? "0" : "2";
    }

    private String figures(int song) {
        String figures = "";
        List<Verse> all = song(song);
        for (int i = 1; i < all.size(); i++) {
            figures += go(all.get(i - 1), all.get(i));
        }
        return figures;
    }

    int tune(int song) {
        if (no(song, 4)) {
            return BAD;
        }
        return song(song).size() > 17 ? STATE : Integer.parseInt("1" + figures(song), 3);
    }

    int where(int m, int piece, int what) {
        if (m < 1 || m > 8 || no(piece, (int) Math.pow(3, m)) || no(what, 3)) {
            return BAD;
        }
        String figures = Integer.toString(piece, 3);
        figures = "0".repeat(m - figures.length()) + figures;
        TreeSet<Integer> found = new TreeSet<>();
        for (Verse v : verses) {
            if (figures(v.song).startsWith(figures, verseOf(v.number, 5))) {
                found.add(v.number);
            }
        }
        return what == 0 ? found.size() : what == 2 ? bits(found) : found.isEmpty() ? NONE : found.first();
    }

    int sure(int v) {
        if (noVerse(v)) {
            return BAD;
        }
        String rest = figures(verses.get(v).song).substring(
            Math.min(verseOf(v, 5), figures(verses.get(v).song).length()));
        for (int m = 1; m <= Math.min(8, rest.length()); m++) {
            if (where(m, Integer.parseInt(rest.substring(0, m), 3), 0) == 1) {
                return m;
            }
        }
        return NONE;
    }

    int faster(int song, int k, int what) {
        if (no(song, 4) || no(k - 2, 3) || no(what, 2)) {
            return BAD;
        }
        List<Verse> all = song(song);
        List<Verse> some = new ArrayList<>();
        for (int i = 0; i < all.size(); i += k) {
            some.add(all.get(i));
        }
        int alike = 0;
        for (int i = 1; i < some.size(); i++) {
            String fast = go(some.get(i - 1), some.get(i));
            alike += figures(song).startsWith(fast, (i - 1) * k) ? 1 : 0;
        }
        return what == 1 ? alike : some.isEmpty() ? 0 : some.size() - 1;
    }

    int cross(int one, int other, int what) {
        if (no(one, 4) || no(other, 4) || one == other || no(what, 2)) {
            return BAD;
        }
        int crossings = 0;
        int singers = 0;
        for (Verse v : song(one)) {
            for (Verse w : song(other)) {
                if (v.place != w.place) {
                    continue;
                }
                crossings |= 1 << v.place;
                for (int i = 0; i < people.size(); i++) {
                    boolean sings = maySing(people.get(i), v) || maySing(people.get(i), w);
                    singers |= sings ? 1 << i : 0;
                }
            }
        }
        return what == 0 ? crossings : singers;
    }

    // ---- keeping

    int soon(int what) {
        if (no(what, 3)) {
            return BAD;
        }
        int rarest = NONE;
        int none = 0;
        for (int v = verses.size() - 1; v >= 0; v--) {
            rarest = rarest == NONE || heads(v) <= heads(rarest) ? v : rarest;
            none += heads(v) == 0 ? 1 : 0;
        }
        return what == 2 ? none : rarest == NONE ? NONE : what == 0 ? rarest : heads(rarest);
    }

    int can(int who, int whom, int verse) {
        if (noOne(who) || noOne(whom) || who == whom || noVerse(verse)) {
            return BAD;
        }
        Verse v = verses.get(verse);
        One from = people.get(who);
        One to = people.get(whom);
        return maySing(from, v) && age(from) >= told.tell && to.lives && mayHear(to, v)
            && !to.has.contains(verse) && (from.tongues & to.tongues & 1 << v.tongue) != 0 ? 1 : 0;
    }

    int teach(int who, int whom, int verse) {
        int can = can(who, whom, verse);
        if (can != 1) {
            return can == BAD ? BAD : STATE;
        }
        people.get(whom).has.add(verse);
        return heads(verse);
    }

    /** Matches verses with the years of teachers, by ways that make the matching larger. */
    int keep(int years) {
        if (no(years - 1, 9)) {
            return BAD;
        }
        int[] taught = new int[people.size() * years];
        Arrays.fill(taught, NONE);
        int kept = 0;
        for (int v = 0; v < verses.size(); v++) {
            kept += heads(v) == 1 && match(v, years, taught, new boolean[taught.length]) ? 1 : 0;
        }
        return kept;
    }

    private boolean match(int v, int years, int[] taught, boolean[] tried) {
        for (int slot = 0; slot < taught.length; slot++) {
            boolean fits = false;
            for (int whom = 0; whom < people.size(); whom++) {
                fits |= can(slot / years, whom, v) == 1;
            }
            if (!fits || tried[slot]) {
                continue;
            }
            tried[slot] = true;
            if (taught[slot] == NONE || match(taught[slot], years, taught, tried)) {
                taught[slot] = v;
                return true;
            }
        }
        return false;
    }

    int map(int songs, int what) {
        if (songs < 1 || songs > 15 || no(what, 2)) {
            return BAD;
        }
        int best = NONE;
        for (int set = 0; set < 1 << places.size(); set++) {
            int shown = 0;
            for (Verse v : verses) {
                shown |= v.held == NONE && (set & 1 << v.place) != 0 ? 1 << v.song : 0;
            }
            boolean fewer = best == NONE || Integer.bitCount(set) < Integer.bitCount(best);
            if ((songs & ~shown) == 0 && fewer) {
                best = set;
            }
        }
        return best == NONE || what == 1 ? best : Integer.bitCount(best);
    }

    // ---- sheets: here the machine itself finds the faults

    int sheet(int k, int lane, int n) {
        if (no(k, 4) || no(lane, 3) || n > 40) {
            return BAD;
        }
        try {
            sheets[k] = lane == 0 ? new byte[n] : lane == 1 ? new short[n] : new int[n];
            return 1;
        } catch (NegativeArraySizeException e) {
            return -14;
        }
    }

    int lay(int k, int i, int v) {
        if (no(k, 4)) {
            return BAD;
        }
        try {
            if (sheets[k] instanceof byte[] row) {
                row[i] = (byte) v;
            } else if (sheets[k] instanceof short[] row) {
                row[i] = (short) v;
            } else {
                ((int[]) sheets[k])[i] = v;
            }
            return 1;
        } catch (NullPointerException e) {
            return -11;
        } catch (ArrayIndexOutOfBoundsException e) {
            return -12;
        }
    }

    int read(int who, int k, int lane, int f, int n) {
        if (noOne(who) || no(k, 4) || no(lane, 3) || no(n, 25)) {
            return BAD;
        }
        if (!people.get(who).lives) {
            return STATE;
        }
        TreeSet<Integer> fresh = new TreeSet<>();
        int found = 0;
        try {
            for (int i = 0; i < n; i++) {
                Object row = sheets[k];
                int v = lane == 0 ? ((byte[]) row)[f + i]
                    : lane == 1 ? ((short[]) row)[f + i] : ((int[]) row)[f + i];
                if (noVerse(v)) {
                    return -20 - i;
                }
                fresh.add(v);
            }
        } catch (NullPointerException e) {
            found = 1;
        } catch (ArrayIndexOutOfBoundsException e) {
            found = 2;
        } catch (ClassCastException e) {
            found = 3;
        }
        torn = found;
        fresh.removeAll(people.get(who).has);
        people.get(who).has.addAll(fresh);
        return fresh.size();
    }

    int torn() {
        return torn;
    }

    int count(int what) {
        int living = 0;
        for (One one : people) {
            living += one.lives ? 1 : 0;
        }
        int cells = sheets[0] == null ? NONE : java.lang.reflect.Array.getLength(sheets[0]);
        int[] all = {places.size(), verses.size(), people.size(), living, year, season, tape.length(), cells};
        return no(what, 8) ? BAD : all[what];
    }
}

/** Ways sung: a dry land crossed by songs, who may sing them, and who can walk by them. */
public final class WaysSung {
    public static final int BAD = -1, STATE = -2, FULL = -3, NONE = -4;

    private static final int PLACES = 12, SONGS = 4, VERSES = 24, PEOPLE = 8, KINS = 8;
    private static final int TONGUES = 9, SEASONS = 4, SHEETS = 4, LANES = 3, CELLS = 40;
    private static final int LONGEST_CARRY = 20, LONGEST_STEP = 9;
    private static final int NULL_FAULT = 1, INDEX_FAULT = 2, CAST_FAULT = 3, SIZE_FAULT = 4;

    private final Land land = new Land();
    private final Songs songs = new Songs();
    private final People people = new People();
    private final Tape tape = new Tape();
    private final Reader reader = new Reader(tape);
    private final Walk walk = new Walk(songs);
    private final Court court = new Court(songs);
    private final Sheet[] sheets = new Sheet[SHEETS];
    private final int[] voices = new int[PEOPLE];
    private Rules told = new Rules();
    private Rules draft = new Rules();
    private int textFault;
    private int readFault;

    public WaysSung() {
        for (int k = 0; k < SHEETS; k++) {
            sheets[k] = new Sheet();
        }
    }

    // ---- the land, songs, people

    public int place(int height, int water) {
        if (outside(height, 10) || outside(water, 1 << SEASONS)) {
            return BAD;
        }
        return land.add(height, water);
    }

    public int verse(int song, int place, int tongue, int days, int held) {
        if (outside(song, SONGS) || outside(place, land.size) || outside(tongue, TONGUES)) {
            return BAD;
        }
        boolean first = songs.length[song] == 0;
        if (!first && (days < 1 || days > LONGEST_STEP)) {
            return BAD;
        }
        if (held != NONE && outside(held, KINS)) {
            return BAD;
        }
        return songs.add(song, place, tongue, first ? 0 : days, held);
    }

    public int one(int kin, int age, int tongues) {
        if (outside(kin, KINS) || outside(age, 100) || outside(tongues, 1 << TONGUES)) {
            return BAD;
        }
        return people.add(kin, age - land.year, tongues);
    }

    public int has(int who, int verse, boolean is) {
        if (outside(who, people.size) || outside(verse, songs.size)) {
            return BAD;
        }
        if (!people.living[who]) {
            return STATE;
        }
        int was = people.had[who] >> verse & 1;
        if (is) {
            people.had[who] |= 1 << verse;
        } else {
            people.had[who] &= ~(1 << verse);
        }
        return was;
    }

    public int dies(int who) {
        if (outside(who, people.size)) {
            return BAD;
        }
        if (!people.living[who]) {
            return STATE;
        }
        people.living[who] = false;
        return Integer.bitCount(people.had[who] & ~people.hadByLiving());
    }

    public int now(int y, int s) {
        if (outside(y, 100) || y < land.year || outside(s, SEASONS)) {
            return BAD;
        }
        int was = land.year;
        land.year = y;
        land.season = s;
        return was;
    }

    public int placeOf(int p, int what) {
        if (outside(p, land.size)) {
            return BAD;
        }
        switch (what) {
            case 0: return land.height[p];
            case 1: return land.water[p];
            case 2: return land.isWet(p, told) ? 1 : 0;
            case 3: return told.dry[p];
            case 4: return songs.songsOf(songs.atPlace[p]);
            default: return BAD;
        }
    }

    public int verseOf(int v, int what) {
        if (outside(v, songs.size)) {
            return BAD;
        }
        switch (what) {
            case 0: return songs.song[v];
            case 1: return songs.place[v];
            case 2: return songs.tongue[v];
            case 3: return songs.days[v];
            case 4: return songs.held[v];
            case 5: return songs.number[v];
            case 6: return people.heads(v);
            default: return BAD;
        }
    }

    public int oneOf(int who, int what) {
        if (outside(who, people.size)) {
            return BAD;
        }
        switch (what) {
            case 0: return people.kin[who];
            case 1: return people.living[who] ? ageNow(who) : NONE;
            case 2: return people.tongues[who];
            case 3: return people.had[who];
            default: return BAD;
        }
    }

    // ---- rules

    public int feed(long v) {
        return tape.append(v);
    }

    public int end(int n) {
        return tape.shorten(n);
    }

    public int rules() {
        int lines = reader.text(draft);
        textFault = reader.fault;
        tape.length = 0;
        if (textFault != 0) {
            return -10 - reader.faultPlace;
        }
        Rules before = told;
        told = draft;
        draft = before;
        return lines;
    }

    public int fault() {
        return textFault;
    }

    public int rule(int what) {
        if (what == 0) {
            return told.sing;
        }
        if (what == 1) {
            return told.tell;
        }
        if (what == 2) {
            return told.carry;
        }
        if (what >= 10 && what < 10 + KINS) {
            return told.hear[what - 10];
        }
        if (what >= 30 && what < 30 + VERSES) {
            return told.pair[what - 30];
        }
        return BAD;
    }

    // ---- leave

    public int may(int who, int what) {
        if (outside(who, people.size) || outside(what, 2)) {
            return BAD;
        }
        return what == 0 ? hearable(who) : singable(who);
    }

    public int asks(int who, int song, int what) {
        if (outside(who, people.size) || outside(song, SONGS)) {
            return BAD;
        }
        int all = songs.ofSong[song];
        int heard = all & hearable(who);
        switch (what) {
            case 0: return heard;
            case 1: return Integer.bitCount(all & ~heard);
            case 2: return songs.placesOf(heard);
            case 3: return songs.firstForeign(heard, people.tongues[who]);
            default: return BAD;
        }
    }

    public int led(int people) {
        return noSuchPeople(people) ? BAD : ledBy(people);
    }

    public int need(int song) {
        if (outside(song, SONGS)) {
            return BAD;
        }
        int verses = songs.ofSong[song];
        return songs.kinsOf(verses | told.pairedWith(verses));
    }

    // ---- ways

    public int way(int people, int from, int to) {
        if (noSuchPeople(people) || outside(from, land.size) || outside(to, land.size)) {
            return BAD;
        }
        return daysBetween(from, to, ledBy(people));
    }

    public int wanting(int people, int from, int to) {
        if (noSuchPeople(people) || outside(from, land.size) || outside(to, land.size)) {
            return BAD;
        }
        int led = ledBy(people);
        if (daysBetween(from, to, led) != NONE) {
            return STATE;
        }
        for (int v = 0; v < songs.size; v++) {
            boolean isLed = (led >> v & 1) == 1;
            if (!isLed && daysBetween(from, to, led | 1 << v) != NONE) {
                return v;
            }
        }
        return NONE;
    }

    public int reach(int people, int from) {
        if (noSuchPeople(people) || outside(from, land.size)) {
            return BAD;
        }
        sweepFrom(from, ledBy(people));
        int places = 0;
        for (int p = 0; p < land.size; p++) {
            if (walk.firstDay[p] != NONE) {
                places |= 1 << p;
            }
        }
        return places;
    }

    public int party(int from, int to, int what) {
        if (outside(from, land.size) || outside(to, land.size) || outside(what, 2)) {
            return BAD;
        }
        hearVoices();
        int singers = singersOfAny();
        // More singers never lead less, so what all can't do no few can.
        if (daysBetween(from, to, ledWhere(sungBy(singers))) == NONE) {
            return NONE;
        }
        for (int size = 0; size <= people.size; size++) {
            for (int set = 0; set < 1 << people.size; set++) {
                if (Integer.bitCount(set) != size || (set & ~singers) != 0) {
                    continue;
                }
                int days = daysBetween(from, to, ledWhere(sungBy(set)));
                if (days != NONE) {
                    return what == 0 ? set : days;
                }
            }
        }
        return NONE;
    }

    public int cut(int places, int what) {
        if (outside(places, 1 << land.size) || outside(what, 2)) {
            return BAD;
        }
        int verses = songs.versesAt(places);
        return what == 0 ? verses : songs.brokenBy(verses);
    }

    public int cutTold(int who, int places, int what) {
        if (outside(who, people.size) || outside(places, 1 << land.size) || outside(what, 2)) {
            return BAD;
        }
        int verses = songs.versesAt(places);
        int heard = verses & hearable(who);
        return what == 0 ? heard : Integer.bitCount(verses & ~heard);
    }

    // ---- tunes

    public int tune(int song) {
        if (outside(song, SONGS)) {
            return BAD;
        }
        if (songs.length[song] > 17) {
            return STATE;
        }
        int figures = 1;
        for (int i = 0; i + 1 < songs.length[song]; i++) {
            figures = figures * 3 + stepFrom(song, i, 1);
        }
        return figures;
    }

    public int where(int m, int piece, int what) {
        if (m < 1 || m > 8 || outside(piece, powerOfThree(m)) || outside(what, 3)) {
            return BAD;
        }
        int all = fitting(m, piece);
        if (what == 0) {
            return Integer.bitCount(all);
        }
        if (what == 1) {
            return all == 0 ? NONE : Integer.numberOfTrailingZeros(all);
        }
        return all;
    }

    public int sure(int verse) {
        if (outside(verse, songs.size)) {
            return BAD;
        }
        for (int m = 1; m <= 8; m++) {
            int piece = pieceFrom(verse, m);
            if (piece == NONE) {
                return NONE;
            }
            if (fitting(m, piece) == 1 << verse) {
                return m;
            }
        }
        return NONE;
    }

    public int faster(int song, int k, int what) {
        if (outside(song, SONGS) || k < 2 || k > 4 || outside(what, 2)) {
            return BAD;
        }
        int steps = 0;
        int alike = 0;
        for (int i = 0; i + k < songs.length[song]; i += k) {
            steps++;
            if (stepFrom(song, i, k) == stepFrom(song, i, 1)) {
                alike++;
            }
        }
        return what == 0 ? steps : alike;
    }

    public int cross(int one, int other, int what) {
        if (outside(one, SONGS) || outside(other, SONGS) || one == other || outside(what, 2)) {
            return BAD;
        }
        int ofOne = songs.ofSong[one];
        int ofOther = songs.ofSong[other];
        int crossings = songs.placesOf(ofOne) & songs.placesOf(ofOther);
        if (what == 0) {
            return crossings;
        }
        int verses = songs.versesAt(crossings) & (ofOne | ofOther);
        int singers = 0;
        for (int i = 0; i < people.size; i++) {
            if ((singable(i) & verses) != 0) {
                singers |= 1 << i;
            }
        }
        return singers;
    }

    // ---- keeping

    public int soon(int what) {
        if (outside(what, 3)) {
            return BAD;
        }
        if (what == 2) {
            return songs.size - Integer.bitCount(people.hadByLiving());
        }
        int rarest = NONE;
        int fewest = NONE;
        for (int v = 0; v < songs.size; v++) {
            int heads = people.heads(v);
            if (rarest == NONE || heads < fewest) {
                rarest = v;
                fewest = heads;
            }
        }
        return what == 0 ? rarest : fewest;
    }

    public int can(int who, int whom, int verse) {
        if (noSuchLesson(who, whom, verse)) {
            return BAD;
        }
        return canTell(who, verse) && canLearn(whom, verse) ? 1 : 0;
    }

    public int teach(int who, int whom, int verse) {
        if (noSuchLesson(who, whom, verse)) {
            return BAD;
        }
        if (!canTell(who, verse) || !canLearn(whom, verse)) {
            return STATE;
        }
        people.had[whom] |= 1 << verse;
        return people.heads(verse);
    }

    public int keep(int years) {
        if (years < 1 || years > 9) {
            return BAD;
        }
        int kept = 0;
        // Only its one head can teach such a verse, so the teachers don't vie with each other.
        for (int i = 0; i < people.size; i++) {
            kept += Math.min(years, loneAndTeachable(i));
        }
        return kept;
    }

    public int map(int songs, int what) {
        if (songs < 1 || songs >= 1 << SONGS || outside(what, 2)) {
            return BAD;
        }
        int marks = court.fewestMarks(songs, land.size);
        if (marks == NONE) {
            return NONE;
        }
        return what == 0 ? Integer.bitCount(marks) : marks;
    }

    // ---- sheets

    public int sheet(int k, int lane, int n) {
        if (outside(k, SHEETS) || outside(lane, LANES) || n > CELLS) {
            return BAD;
        }
        if (n < 0) {
            return -10 - SIZE_FAULT;
        }
        sheets[k].renew(lane, n);
        return 1;
    }

    public int lay(int k, int i, int v) {
        if (outside(k, SHEETS)) {
            return BAD;
        }
        Sheet sheet = sheets[k];
        int fault = sheet.faultAt(sheet.lane, i);
        if (fault != 0) {
            return -10 - fault;
        }
        sheet.write(i, v);
        return 1;
    }

    public int read(int who, int k, int lane, int f, int n) {
        if (outside(who, people.size) || outside(k, SHEETS) || outside(lane, LANES) || outside(n, 25)) {
            return BAD;
        }
        if (!people.living[who]) {
            return STATE;
        }
        Sheet sheet = sheets[k];
        int verses = 0;
        int fault = 0;
        for (int i = 0; i < n; i++) {
            fault = sheet.faultAt(lane, f + i);
            if (fault != 0) {
                break;
            }
            int verse = sheet.cells[f + i];
            if (outside(verse, songs.size)) {
                return -20 - i;
            }
            verses |= 1 << verse;
        }
        readFault = fault;
        int fresh = verses & ~people.had[who];
        people.had[who] |= fresh;
        return Integer.bitCount(fresh);
    }

    public int torn() {
        return readFault;
    }

    public int count(int what) {
        switch (what) {
            case 0: return land.size;
            case 1: return songs.size;
            case 2: return people.size;
            case 3: return people.howManyLive();
            case 4: return land.year;
            case 5: return land.season;
            case 6: return tape.length;
            case 7: return sheets[0].size;
            default: return BAD;
        }
    }

    // ---- what several calls share

    private static boolean outside(int number, int bound) {
        return number < 0 || number >= bound;
    }

    private boolean noSuchPeople(int set) {
        return outside(set, 1 << people.size);
    }

    private boolean noSuchLesson(int who, int whom, int verse) {
        return outside(who, people.size) || outside(whom, people.size) || who == whom
            || outside(verse, songs.size);
    }

    private int ageNow(int who) {
        return people.ageAtYearZero[who] + land.year;
    }

    private int hearable(int who) {
        int kin = people.kin[who];
        int verses = 0;
        for (int v = 0; v < songs.size; v++) {
            int held = songs.held[v];
            if (held == NONE || held == kin || (told.hear[held] >> kin & 1) == 1) {
                verses |= 1 << v;
            }
        }
        return verses;
    }

    private int singable(int who) {
        if (!people.living[who] || ageNow(who) < told.sing) {
            return 0;
        }
        return people.had[who] & songs.openOrHeldBy(people.kin[who]);
    }

    /** Fills voices with what each one may sing, once for all the sets that are tried. */
    private void hearVoices() {
        for (int i = 0; i < people.size; i++) {
            voices[i] = singable(i);
        }
    }

    private int singersOfAny() {
        int singers = 0;
        for (int i = 0; i < people.size; i++) {
            if (voices[i] != 0) {
                singers |= 1 << i;
            }
        }
        return singers;
    }

    private int sungBy(int set) {
        int verses = 0;
        for (int i = 0; i < people.size; i++) {
            if ((set >> i & 1) == 1) {
                verses |= voices[i];
            }
        }
        return verses;
    }

    /** What is led by people who can sing these verses among them. */
    private int ledWhere(int sung) {
        int led = 0;
        for (int v = 0; v < songs.size; v++) {
            if ((sung >> v & 1) == 1 && (told.pair[v] & ~sung) == 0) {
                led |= 1 << v;
            }
        }
        return led;
    }

    private int ledBy(int set) {
        hearVoices();
        return ledWhere(sungBy(set));
    }

    private void sweepFrom(int from, int led) {
        walk.sweep(from, led, land.wetPlaces(told), told.carry);
    }

    private int daysBetween(int from, int to, int led) {
        if (from == to) {
            return 0;
        }
        // Most sets that party tries fail already here.
        if ((songs.atPlace[from] & led) == 0 || (songs.atPlace[to] & led) == 0) {
            return NONE;
        }
        sweepFrom(from, led);
        return walk.firstDay[to];
    }

    /** How the ground goes from the i-th verse of a song to the one that is so many behind it. */
    private int stepFrom(int song, int i, int behind) {
        int here = land.height[songs.place[songs.order[song][i]]];
        int there = land.height[songs.place[songs.order[song][i + behind]]];
        if (there == here) {
            return 2;
        }
        return there > here ? 1 : 0;
    }

    /** The piece of m steps from a verse on; NONE if its song ends ahead. */
    private int pieceFrom(int verse, int m) {
        int song = songs.song[verse];
        int first = songs.number[verse];
        if (first + m >= songs.length[song]) {
            return NONE;
        }
        int piece = 0;
        for (int i = first; i < first + m; i++) {
            piece = piece * 3 + stepFrom(song, i, 1);
        }
        return piece;
    }

    private int fitting(int m, int piece) {
        int verses = 0;
        for (int v = 0; v < songs.size; v++) {
            if (pieceFrom(v, m) == piece) {
                verses |= 1 << v;
            }
        }
        return verses;
    }

    private static int powerOfThree(int m) {
        int power = 1;
        for (int i = 0; i < m; i++) {
            power *= 3;
        }
        return power;
    }

    private boolean canTell(int who, int verse) {
        return (singable(who) >> verse & 1) == 1 && ageNow(who) >= told.tell
            && people.speaks(who, songs.tongue[verse]);
    }

    private boolean canLearn(int whom, int verse) {
        return people.living[whom] && (hearable(whom) >> verse & 1) == 1
            && (people.had[whom] >> verse & 1) == 0 && people.speaks(whom, songs.tongue[verse]);
    }

    /** How many verses have this one as their only head, who can teach them to somebody. */
    private int loneAndTeachable(int who) {
        int verses = 0;
        for (int v = 0; v < songs.size; v++) {
            if (people.heads(v) == 1 && canTell(who, v) && somebodyCanLearn(v)) {
                verses++;
            }
        }
        return verses;
    }

    private boolean somebodyCanLearn(int verse) {
        for (int i = 0; i < people.size; i++) {
            if (canLearn(i, verse)) {
                return true;
            }
        }
        return false;
    }

    /** Places with their heights and water; the year and the season. */
    private static final class Land {
        private final int[] height = new int[PLACES];
        private final int[] water = new int[PLACES];
        private int size;
        private int year;
        private int season;

        private int add(int tall, int seasons) {
            if (size >= PLACES) {
                return FULL;
            }
            height[size] = tall;
            water[size] = seasons;
            size++;
            return size - 1;
        }

        private boolean isWet(int p, Rules rules) {
            boolean driedUp = rules.dry[p] != NONE && rules.dry[p] <= year;
            return (water[p] >> season & 1) == 1 && !driedUp;
        }

        private int wetPlaces(Rules rules) {
            int places = 0;
            for (int p = 0; p < size; p++) {
                if (isWet(p, rules)) {
                    places |= 1 << p;
                }
            }
            return places;
        }
    }

    /** Verses, and the songs as rows of them. */
    private static final class Songs {
        private final int[] song = new int[VERSES];
        private final int[] place = new int[VERSES];
        private final int[] tongue = new int[VERSES];
        private final int[] days = new int[VERSES];
        private final int[] held = new int[VERSES];
        private final int[] number = new int[VERSES];
        private final int[][] order = new int[SONGS][VERSES];
        private final int[] length = new int[SONGS];
        private final int[] ofSong = new int[SONGS];
        private final int[] atPlace = new int[PLACES];
        private int size;

        private int add(int inSong, int inPlace, int inTongue, int fromLast, int heldBy) {
            if (size >= VERSES) {
                return FULL;
            }
            int v = size;
            song[v] = inSong;
            place[v] = inPlace;
            tongue[v] = inTongue;
            days[v] = fromLast;
            held[v] = heldBy;
            number[v] = length[inSong];
            order[inSong][length[inSong]] = v;
            length[inSong]++;
            ofSong[inSong] |= 1 << v;
            atPlace[inPlace] |= 1 << v;
            size++;
            return v;
        }

        private int versesAt(int places) {
            int verses = 0;
            for (int p = 0; p < PLACES; p++) {
                if ((places >> p & 1) == 1) {
                    verses |= atPlace[p];
                }
            }
            return verses;
        }

        private int openOrHeldBy(int kin) {
            int verses = 0;
            for (int v = 0; v < size; v++) {
                if (held[v] == NONE || held[v] == kin) {
                    verses |= 1 << v;
                }
            }
            return verses;
        }

        private int placesOf(int verses) {
            int places = 0;
            for (int v = 0; v < size; v++) {
                if ((verses >> v & 1) == 1) {
                    places |= 1 << place[v];
                }
            }
            return places;
        }

        private int songsOf(int verses) {
            int found = 0;
            for (int v = 0; v < size; v++) {
                if ((verses >> v & 1) == 1) {
                    found |= 1 << song[v];
                }
            }
            return found;
        }

        private int kinsOf(int verses) {
            int kins = 0;
            for (int v = 0; v < size; v++) {
                if ((verses >> v & 1) == 1 && held[v] != NONE) {
                    kins |= 1 << held[v];
                }
            }
            return kins;
        }

        private int firstForeign(int verses, int tongues) {
            for (int v = 0; v < size; v++) {
                if ((verses >> v & 1) == 1 && (tongues >> tongue[v] & 1) == 0) {
                    return v;
                }
            }
            return NONE;
        }

        /** Songs that have a verse ahead of one of these and a verse behind it. */
        private int brokenBy(int verses) {
            int broken = 0;
            for (int v = 0; v < size; v++) {
                boolean within = number[v] > 0 && number[v] + 1 < length[song[v]];
                if ((verses >> v & 1) == 1 && within) {
                    broken |= 1 << song[v];
                }
            }
            return broken;
        }

        /** The verse behind this one in its song, or NONE. */
        private int following(int v) {
            int i = number[v] + 1;
            return i < length[song[v]] ? order[song[v]][i] : NONE;
        }

        /** The verse ahead of this one in its song, or NONE. */
        private int preceding(int v) {
            int i = number[v] - 1;
            return i >= 0 ? order[song[v]][i] : NONE;
        }
    }

    /** People, living or not, and the verses that they have. */
    private static final class People {
        private final int[] kin = new int[PEOPLE];
        private final int[] ageAtYearZero = new int[PEOPLE];
        private final int[] tongues = new int[PEOPLE];
        private final int[] had = new int[PEOPLE];
        private final boolean[] living = new boolean[PEOPLE];
        private int size;

        private int add(int ofKin, int ageThen, int speaking) {
            if (size >= PEOPLE) {
                return FULL;
            }
            kin[size] = ofKin;
            ageAtYearZero[size] = ageThen;
            tongues[size] = speaking;
            living[size] = true;
            size++;
            return size - 1;
        }

        private boolean speaks(int who, int tongue) {
            return (tongues[who] >> tongue & 1) == 1;
        }

        private int heads(int verse) {
            int heads = 0;
            for (int i = 0; i < size; i++) {
                if (living[i]) {
                    heads += had[i] >> verse & 1;
                }
            }
            return heads;
        }

        private int hadByLiving() {
            int verses = 0;
            for (int i = 0; i < size; i++) {
                if (living[i]) {
                    verses |= had[i];
                }
            }
            return verses;
        }

        private int howManyLive() {
            int live = 0;
            for (int i = 0; i < size; i++) {
                if (living[i]) {
                    live++;
                }
            }
            return live;
        }
    }

    /** What a text tells. */
    private static final class Rules {
        private final int[] hear = new int[KINS];
        private final int[] pair = new int[VERSES];
        private final int[] dry = new int[PLACES];
        private int sing;
        private int tell;
        private int carry;

        private Rules() {
            reset();
        }

        private void reset() {
            sing = 12;
            tell = 20;
            carry = 3;
            for (int k = 0; k < KINS; k++) {
                hear[k] = 0;
            }
            for (int v = 0; v < VERSES; v++) {
                pair[v] = 0;
            }
            for (int p = 0; p < PLACES; p++) {
                dry[p] = NONE;
            }
        }

        private int pairedWith(int verses) {
            int others = 0;
            for (int v = 0; v < VERSES; v++) {
                if ((verses >> v & 1) == 1) {
                    others |= pair[v];
                }
            }
            return others;
        }
    }

    /** The bytes that wait to be read as a text. */
    private static final class Tape {
        private static final int ROOM = 200;
        private final byte[] bytes = new byte[ROOM];
        private int length;

        private int append(long eight) {
            if (length + 8 > ROOM) {
                return FULL;
            }
            for (int shift = 56; shift >= 0; shift -= 8) {
                bytes[length] = (byte) (eight >> shift);
                length++;
            }
            return length;
        }

        private int shorten(int n) {
            if (n < 0 || n > length) {
                return BAD;
            }
            int was = length;
            length = n;
            return was;
        }

        private boolean isLetter(int i) {
            return bytes[i] >= 'a' && bytes[i] <= 'z';
        }

        private boolean isFigure(int i) {
            return bytes[i] >= '0' && bytes[i] <= '9';
        }

        private boolean spells(int from, int to, String name) {
            if (to - from != name.length()) {
                return false;
            }
            for (int i = from; i < to; i++) {
                if (bytes[i] != name.charAt(i - from)) {
                    return false;
                }
            }
            return true;
        }
    }

    /** Reads the text on the tape token by token and stops at its first fault. */
    private static final class Reader {
        private static final int FINISH = 0, NAME = 1, NUMBER = 2, STOP = 3;
        private static final int HEAR = 0, SING = 1, TELL = 2, CARRY = 3, DRY = 4, PAIR = 5;

        private final Tape tape;
        // The token: its kind, its first byte, its number or which name it is, and what is behind.
        private int kind;
        private int start;
        private int value;
        private int next;
        // The line: its name (NONE between lines), its first number, numbers yet to come.
        private int word;
        private int first;
        private int missing;
        // The text.
        private int lines;
        private int namesSeen;
        private int fault;
        private int faultPlace;

        private Reader(Tape from) {
            tape = from;
        }

        /** How many lines the tape tells; of no meaning if there is a fault. */
        private int text(Rules into) {
            into.reset();
            next = 0;
            word = NONE;
            lines = 0;
            namesSeen = 0;
            fault = 0;
            faultPlace = 0;
            boolean open = true;
            // A token has a byte at least, and the end is taken as one more.
            for (int i = 0; i <= Tape.ROOM && open; i++) {
                open = token() && take(into);
            }
            return lines;
        }

        private boolean refuse(int what, int where) {
            fault = what;
            faultPlace = where;
            return false;
        }

        private boolean token() {
            while (next < tape.length && tape.bytes[next] == ' ') {
                next++;
            }
            start = next;
            if (next >= tape.length) {
                kind = FINISH;
                return true;
            }
            if (tape.isLetter(next)) {
                return name();
            }
            if (tape.isFigure(next)) {
                return figures();
            }
            if (tape.bytes[next] != ';') {
                return refuse(1, start);
            }
            next++;
            kind = STOP;
            return true;
        }

        private boolean name() {
            while (next < tape.length && tape.isLetter(next)) {
                next++;
            }
            kind = NAME;
            value = meaning();
            return value != NONE || refuse(1, start);
        }

        private int meaning() {
            if (tape.spells(start, next, "hear")) {
                return HEAR;
            }
            if (tape.spells(start, next, "sing")) {
                return SING;
            }
            if (tape.spells(start, next, "tell")) {
                return TELL;
            }
            if (tape.spells(start, next, "carry")) {
                return CARRY;
            }
            if (tape.spells(start, next, "dry")) {
                return DRY;
            }
            return tape.spells(start, next, "pair") ? PAIR : NONE;
        }

        private boolean figures() {
            kind = NUMBER;
            value = 0;
            while (next < tape.length && tape.isFigure(next)) {
                // A number too long is refused below, so what it wraps to is never used.
                value = value * 10 + (tape.bytes[next] - '0');
                next++;
            }
            return next - start <= 2 || refuse(1, start);
        }

        /** Whether the text goes on behind this token. */
        private boolean take(Rules into) {
            if (word == NONE) {
                return kind != FINISH && begin();
            }
            if (missing > 0) {
                return number(into);
            }
            if (kind != STOP) {
                return refuse(2, start);
            }
            word = NONE;
            lines++;
            return true;
        }

        private boolean begin() {
            if (kind != NAME) {
                return refuse(2, start);
            }
            boolean single = value == SING || value == TELL || value == CARRY;
            if (single && (namesSeen >> value & 1) == 1) {
                return refuse(4, start);
            }
            namesSeen |= 1 << value;
            word = value;
            missing = single ? 1 : 2;
            return true;
        }

        private boolean number(Rules into) {
            if (kind != NUMBER) {
                return refuse(2, start);
            }
            if (value < (word == CARRY ? 1 : 0) || value > most()) {
                return refuse(3, start);
            }
            missing--;
            if (missing == 0) {
                return apply(into);
            }
            if (word == DRY && into.dry[value] != NONE) {
                return refuse(4, start);
            }
            first = value;
            return true;
        }

        private int most() {
            switch (word) {
                case HEAR: return KINS - 1;
                case CARRY: return LONGEST_CARRY;
                case DRY: return missing == 2 ? PLACES - 1 : 99;
                case PAIR: return VERSES - 1;
                default: return 99;
            }
        }

        /** Puts the line, whose last number has come, among the rules. */
        private boolean apply(Rules into) {
            switch (word) {
                case HEAR: return applyHear(into);
                case SING: into.sing = value; return true;
                case TELL: into.tell = value; return true;
                case CARRY: into.carry = value; return true;
                case DRY: into.dry[first] = value; return true;
                default: return applyPair(into);
            }
        }

        private boolean applyHear(Rules into) {
            if ((into.hear[first] >> value & 1) == 1) {
                return refuse(4, start);
            }
            into.hear[first] |= 1 << value;
            return true;
        }

        private boolean applyPair(Rules into) {
            if (value == first) {
                return refuse(3, start);
            }
            if ((into.pair[first] >> value & 1) == 1) {
                return refuse(4, start);
            }
            into.pair[first] |= 1 << value;
            into.pair[value] |= 1 << first;
            return true;
        }
    }

    /**
     * Goes out from a place day by day. Coming to a place no earlier and no less dry than before
     * opens nothing new, so of each place the least days without water so far are enough.
     */
    private static final class Walk {
        private static final int RING = LONGEST_STEP + 1, FAR = LONGEST_CARRY + 1;
        // Each place gets better at most FAR times, at most LONGEST_STEP days apart.
        private static final int LAST_DAY = PLACES * FAR * RING;

        private final Songs songs;
        private final int[][] coming = new int[RING][PLACES];
        private final int[] least = new int[PLACES];
        private final int[] firstDay = new int[PLACES];
        private int led;
        private int wet;
        private int carry;

        private Walk(Songs of) {
            songs = of;
        }

        /** Sets firstDay of each place: the fewest days to it, or NONE. */
        private void sweep(int from, int ledVerses, int wetPlaces, int daysCarried) {
            led = ledVerses;
            wet = wetPlaces;
            carry = daysCarried;
            clear();
            coming[0][from] = 0;
            int quiet = 0;
            for (int day = 0; day < LAST_DAY && quiet < RING; day++) {
                quiet = arrive(day) ? 0 : quiet + 1;
            }
        }

        private void clear() {
            for (int p = 0; p < PLACES; p++) {
                least[p] = FAR;
                firstDay[p] = NONE;
                for (int slot = 0; slot < RING; slot++) {
                    coming[slot][p] = FAR;
                }
            }
        }

        private boolean arrive(int day) {
            boolean better = false;
            int[] today = coming[day % RING];
            for (int p = 0; p < PLACES; p++) {
                int dryDays = today[p];
                today[p] = FAR;
                if (dryDays >= least[p]) {
                    continue;
                }
                better = true;
                least[p] = dryDays;
                if (firstDay[p] == NONE) {
                    firstDay[p] = day;
                }
                setOut(p, day, dryDays);
            }
            return better;
        }

        private void setOut(int p, int day, int dryDays) {
            int here = songs.atPlace[p] & led;
            for (int v = 0; v < songs.size; v++) {
                if ((here >> v & 1) == 0) {
                    continue;
                }
                int behind = songs.following(v);
                if (behind != NONE) {
                    step(behind, songs.days[behind], day, dryDays);
                }
                int ahead = songs.preceding(v);
                if (ahead != NONE) {
                    step(ahead, songs.days[v], day, dryDays);
                }
            }
        }

        private void step(int verse, int days, int day, int dryDays) {
            int dryThen = dryDays + days;
            if ((led >> verse & 1) == 0 || dryThen > carry) {
                return;
            }
            int p = songs.place[verse];
            if ((wet >> p & 1) == 1) {
                dryThen = 0;
            }
            int[] then = coming[(day + days) % RING];
            if (dryThen < then[p]) {
                then[p] = dryThen;
            }
        }
    }

    /** Finds the fewest marks on a map for a court. */
    private static final class Court {
        private static final int SETS = 1 << SONGS, MARK = 1 << PLACES, UNMET = MARK * (PLACES + 1);

        private final Songs songs;
        private final int[] cost = new int[SETS];

        private Court(Songs of) {
            songs = of;
        }

        /**
         * The places as bits, or NONE. Each place costs a mark and its bit, so that the least sum
         * is the fewest places and among these the least bits.
         */
        private int fewestMarks(int told, int places) {
            for (int set = 0; set < SETS; set++) {
                cost[set] = UNMET;
            }
            cost[0] = 0;
            int open = songs.openOrHeldBy(NONE);
            for (int p = 0; p < places; p++) {
                mark(p, songs.songsOf(open & songs.atPlace[p]) & told);
            }
            return cost[told] >= UNMET ? NONE : cost[told] % MARK;
        }

        private void mark(int p, int shown) {
            for (int set = SETS - 1; set >= 0; set--) {
                int with = set | shown;
                cost[with] = Math.min(cost[with], cost[set] + MARK + (1 << p));
            }
        }
    }

    /** A row of cells, or nothing while its size is NONE. */
    private static final class Sheet {
        private final int[] cells = new int[CELLS];
        private int lane;
        private int size = NONE;

        private void renew(int ofLane, int n) {
            lane = ofLane;
            size = n;
            for (int i = 0; i < n; i++) {
                cells[i] = 0;
            }
        }

        /** What the machine would find at a cell of this row, were it taken as of that lane; 0. */
        private int faultAt(int asLane, int i) {
            if (size == NONE) {
                return NULL_FAULT;
            }
            if (asLane != lane) {
                return CAST_FAULT;
            }
            return i < 0 || i >= size ? INDEX_FAULT : 0;
        }

        private void write(int i, int v) {
            if (lane == 0) {
                cells[i] = (byte) v;
            } else if (lane == 1) {
                cells[i] = (short) v;
            } else {
                cells[i] = v;
            }
        }
    }
}

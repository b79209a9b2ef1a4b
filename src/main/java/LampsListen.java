import java.util.Arrays;

/** Lamps on a quay that are lit by a hum of their own note. */
public final class LampsListen {
    public static final int NONE = -1, WIND = -2, HUMMER = -3, UNKNOWN = -1001, OUTSIDE = -1002, NOT = -1003, FULL = -1004;

    private static final int PLACES = 50;
    private static final int NOTES = 64;
    private static final int MOST_LAMPS = 10;
    private static final int SETS = 1 << MOST_LAMPS;
    private static final int MOST_SINGERS = 8;
    private static final int MOST_SONGS = 30;
    private static final int MOST_DAYS = 30;
    private static final int MOST_SIGNALS = 8;
    private static final int MOST_ENTRIES = 40;
    private static final int MOST_TEXT = 400;
    private static final int MOST_MONTH_TEXT = 200;
    private static final int MOST_LOUD = 50;
    private static final int MOST_FROST = 9;
    private static final int MOST_MOTHS = 99;
    private static final int STEP_ON = 64;
    private static final int LOW_31_BITS = 0x7fffffff;
    // Above every count that can come out, and small enough to be added to.
    private static final int NEVER = 100000;

    private final Row text = new Row(MOST_TEXT);
    private final Scribe scribe = new Scribe(text);
    private final Site site = new Site();
    private final Songs songs = new Songs();
    private final Row days = new Row(MOST_DAYS);
    private final Moment now = new Moment(site);
    private final Moment trial = new Moment(site);
    private final Moment firstImage = new Moment(site);
    private final Moment secondImage = new Moment(site);
    private final Row signals = new Row(MOST_SIGNALS);
    private final Row entries = new Row(MOST_ENTRIES);
    private final Hearing hearing = new Hearing();
    private final Whistles whistles = new Whistles(hearing);
    private final Tour tour = new Tour(hearing);
    private final Filing filing = new Filing(now);

    public LampsListen() {
        site.fillUntold();
        now.startOn();
    }

    // ---- texts

    public int feed(int n, long bytes) {
        if (n < 1 || n > 8) {
            return OUTSIDE;
        }
        if (text.size() + n > MOST_TEXT) {
            return FULL;
        }
        for (int k = n - 1; k >= 0; k--) {
            text.put((int) (bytes >>> (8 * k)) & 255);
        }
        return text.size();
    }

    public int quay() {
        int number = scribe.readQuay(site);
        if (number < 0) {
            return number;
        }
        now.startOn();
        songs.empty();
        signals.empty();
        entries.empty();
        firstImage.isKept = false;
        secondImage.isKept = false;
        tour.isFound = false;
        return number;
    }

    public int night() {
        return scribe.readNight(songs, site);
    }

    public int month() {
        if (text.size() > MOST_MONTH_TEXT) {
            return NOT;
        }
        return scribe.readMonth(days);
    }

    public int fault() {
        return scribe.faultPlace();
    }

    public int told(int what) {
        switch (what) {
            case 0: return site.lamps();
            case 1: return site.singers();
            case 2: return songs.count();
            case 3: return days.size();
            case 4: return signals.size();
            case 5: return entries.size();
            case 6: return text.size();
            case 7: return site.burn;
            case 8: return site.moths;
            case 9: return site.loud;
            case 10: return now.minute;
            case 11: return now.frost;
            case 12: return now.wind;
            default: return OUTSIDE;
        }
    }

    public int lamp(int l, int what) {
        if (!isLamp(l)) {
            return UNKNOWN;
        }
        switch (what) {
            case 0: return site.place.at(l);
            case 1: return now.note[l];
            case 2: return site.width.at(l);
            case 3: return site.flatness.at(l);
            case 4: return now.ear(l);
            case 5: return now.left[l];
            case 6: return now.moths[l];
            case 7: return now.leader[l];
            default: return OUTSIDE;
        }
    }

    public int singer(int s, int what) {
        if (s < 0 || s >= site.singers()) {
            return UNKNOWN;
        }
        switch (what) {
            case 0: return site.stand.at(s);
            case 1: return site.strength.at(s);
            case 2: return site.lowest.at(s);
            case 3: return site.highest.at(s);
            default: return OUTSIDE;
        }
    }

    // ---- minutes

    public int weather(int what, int v) {
        if (what == 0 && isWithin(v, 0, MOST_FROST)) {
            int was = now.frost;
            now.frost = v;
            tour.isFound = false;
            return was;
        }
        if (what == 1 && isWithin(v, 0, MOST_LOUD)) {
            int was = now.wind;
            now.wind = v;
            return was;
        }
        return OUTSIDE;
    }

    public int wakes(int place, int note, int loud) {
        if (!isSpot(place, note) || !isLoud(loud)) {
            return OUTSIDE;
        }
        return now.woken(place, note, loud);
    }

    public int hum(int place, int note) {
        if (!isSpot(place, note)) {
            return OUTSIDE;
        }
        int set = now.woken(place, note, site.loud);
        now.light(set, HUMMER);
        return set;
    }

    public int run(int n) {
        if (!isWithin(n, 1, 300)) {
            return OUTSIDE;
        }
        for (int k = 0; k < n; k++) {
            now.passMinute(songs);
        }
        return now.burning();
    }

    public int lit(int what) {
        if (what == 0) {
            return now.burning();
        }
        return what == 1 ? now.seen() : OUTSIDE;
    }

    public int dark() {
        int was = now.minute;
        now.darken();
        return was;
    }

    public int sweep(int l) {
        if (!isLamp(l)) {
            return UNKNOWN;
        }
        int was = now.moths[l];
        now.moths[l] = 0;
        return was;
    }

    // ---- the round

    public int round(int j) {
        tour.find(now);
        if (j == NONE) {
            return tour.minutes();
        }
        return tour.step(j);
    }

    // ---- signals, whistles

    public int signal(int set) {
        if (!isKnown(set)) {
            return UNKNOWN;
        }
        if (signals.indexOf(set) != NONE) {
            return NOT;
        }
        if (signals.isFull()) {
            return FULL;
        }
        signals.put(set);
        return signals.size() - 1;
    }

    public int forget() {
        int were = signals.size();
        signals.empty();
        return were;
    }

    public int shows() {
        return signals.indexOf(now.seen());
    }

    public int lured(int from, int to, long notes, int l) {
        if (!isKnown(from) || !isKnown(to)) {
            return UNKNOWN;
        }
        if (!isLoud(l)) {
            return OUTSIDE;
        }
        hearing.listen(now, l);
        whistles.gather(notes);
        return whistles.fewestSounds(from, to);
    }

    public int apart(long notes, int l, int d, int i) {
        if (!isLoud(l) || !isWithin(d, 1, 9)) {
            return OUTSIDE;
        }
        hearing.listen(now, l);
        whistles.gather(notes);
        int count = 0;
        for (int one = 0; one < signals.size(); one++) {
            for (int other = 0; other < signals.size(); other++) {
                if (one == other || !isTooNear(one, other, d)) {
                    continue;
                }
                if (count == i) {
                    return 100 * one + other;
                }
                count++;
            }
        }
        return i == NONE ? count : NONE;
    }

    private boolean isTooNear(int one, int other, int d) {
        int sounds = whistles.fewestSounds(signals.at(one), signals.at(other));
        return sounds != NONE && sounds < d;
    }

    public int fewest(int from, int to, int l, int i) {
        if (!isKnown(from) || !isKnown(to)) {
            return UNKNOWN;
        }
        if (!isLoud(l)) {
            return OUTSIDE;
        }
        hearing.listen(now, l);
        int count = whistles.fewestNotes(from, to);
        if (i == NONE) {
            return count;
        }
        return i >= 0 && i < count ? whistles.noteOfFewest(to & ~from, i) : NONE;
    }

    public int who(int set) {
        if (!isKnown(set)) {
            return UNKNOWN;
        }
        int found = 0;
        for (int s = 0; s < site.singers(); s++) {
            if (singerCouldWake(s, set)) {
                found |= 1 << s;
            }
        }
        return found;
    }

    private boolean singerCouldWake(int s, int set) {
        for (int note = site.lowest.at(s); note <= site.highest.at(s); note++) {
            if (now.woken(site.stand.at(s), note, site.strength.at(s)) == set) {
                return true;
            }
        }
        return false;
    }

    public int where(int set, int l) {
        if (!isKnown(set)) {
            return UNKNOWN;
        }
        if (!isLoud(l)) {
            return OUTSIDE;
        }
        hearing.listen(now, l);
        int places = 0;
        for (int place = 0; place < PLACES; place++) {
            if (hearing.hasJust(place, set)) {
                places++;
            }
        }
        return places;
    }

    // ---- filing

    public int file(int l, int note) {
        if (!isLamp(l)) {
            return UNKNOWN;
        }
        int was = now.note[l];
        if (note <= was || note >= NOTES) {
            return OUTSIDE;
        }
        now.note[l] = note;
        tour.isFound = false;
        return note - was;
    }

    public int alone(int l) {
        if (l != NONE && !isLamp(l)) {
            return UNKNOWN;
        }
        int sum = filing.partAll();
        if (l == NONE || sum == NONE) {
            return sum;
        }
        return filing.parted[l];
    }

    public int tuned(int u, int step, int n, int j) {
        if (!isWithin(u, 0, NOTES - 1) || !isWithin(step, 1, 9) || !isWithin(n, 1, MOST_LAMPS)) {
            return OUTSIDE;
        }
        if (n > site.lamps() || u + (n - 1) * step >= NOTES) {
            return NOT;
        }
        int sum = filing.leastSum(u, step, n);
        if (j == NONE || sum == NONE) {
            return sum;
        }
        return j >= 0 && j < n ? filing.lampOfTuned(u, step, j) : NONE;
    }

    // ---- months, logs

    public int flat(int what) {
        if (what < 0 || what > 1 && what - 2 >= days.size()) {
            return OUTSIDE;
        }
        tour.find(now);
        if (tour.minutes() == NONE) {
            return NOT;
        }
        trial.copy(now);
        if (what > 1) {
            return darkOnDay(what - 2);
        }
        int first = NONE;
        int count = 0;
        for (int day = 0; day < days.size(); day++) {
            if (darkOnDay(day) != 0) {
                first = count == 0 ? day : first;
                count++;
            }
        }
        return what == 0 ? first : count;
    }

    /** The trial's frost is the only thing of it that a day may change. */
    private int darkOnDay(int day) {
        trial.frost = days.at(day);
        return site.allLamps() & ~tour.wokenBy(trial);
    }

    public int log(int set) {
        if (!isKnown(set)) {
            return UNKNOWN;
        }
        if (entries.isFull()) {
            return FULL;
        }
        entries.put(set);
        return entries.size();
    }

    public int clear() {
        int were = entries.size();
        entries.empty();
        return were;
    }

    public int judge() {
        trial.copy(now);
        for (int k = 0; k < entries.size(); k++) {
            trial.passMinute(songs);
            if (trial.seen() != entries.at(k)) {
                return k;
            }
        }
        return NONE;
    }

    // ---- draws, images

    public int seed(int v) {
        if (v < 0) {
            return OUTSIDE;
        }
        int was = now.drawn;
        now.drawn = v;
        return was;
    }

    public int keep(int i) {
        Moment image = imageOf(i);
        if (image == null) {
            return UNKNOWN;
        }
        image.copy(now);
        image.isKept = true;
        return 1;
    }

    public int goBack(int i) {
        Moment image = imageOf(i);
        if (image == null) {
            return UNKNOWN;
        }
        if (!image.isKept) {
            return NOT;
        }
        now.copy(image);
        tour.isFound = false;
        return 1;
    }

    private Moment imageOf(int i) {
        if (i == 0) {
            return firstImage;
        }
        return i == 1 ? secondImage : null;
    }

    // ---- bounds

    private boolean isLamp(int l) {
        return l >= 0 && l < site.lamps();
    }

    private boolean isKnown(int set) {
        return (set & ~site.allLamps()) == 0;
    }

    private static boolean isSpot(int place, int note) {
        return isWithin(place, 0, PLACES - 1) && isWithin(note, 0, NOTES - 1);
    }

    private static boolean isLoud(int loud) {
        return isWithin(loud, 1, MOST_LOUD);
    }

    private static boolean isWithin(int v, int low, int high) {
        return v >= low && v <= high;
    }

    /** Numbers in a row, up to a limit: one more is dropped, and what is not in it reads as 0. */
    private static final class Row {
        private final int[] values;
        private int size;

        Row(int limit) {
            values = new int[Math.max(limit, 0)];
        }

        int size() {
            return size;
        }

        boolean isFull() {
            return size >= values.length;
        }

        int at(int k) {
            return k >= 0 && k < size ? values[k] : 0;
        }

        void put(int v) {
            if (size < values.length) {
                values[size] = v;
                size++;
            }
        }

        void empty() {
            size = 0;
        }

        int indexOf(int v) {
            for (int k = 0; k < size; k++) {
                if (values[k] == v) {
                    return k;
                }
            }
            return NONE;
        }

        void copy(Row other) {
            size = 0;
            for (int k = 0; k < other.size; k++) {
                put(other.values[k]);
            }
        }

        /** Of sets, one that another one holds is never worth choosing, so it is not kept. */
        void putIfLargest(int set) {
            for (int k = 0; k < size; k++) {
                if ((set & ~values[k]) == 0) {
                    return;
                }
            }
            int stay = 0;
            for (int k = 0; k < size; k++) {
                if ((values[k] & ~set) != 0) {
                    values[stay] = values[k];
                    stay++;
                }
            }
            size = stay;
            put(set);
        }
    }

    /** Goes through a text; after the first fault nothing that it reads counts any more. */
    private static final class Reader {
        static final int CANNOT_STAND = 1;
        static final int BAD_NUMBER = 2;
        static final int ONE_TOO_MANY = 3;
        static final int TOO_EARLY = 4;

        private final Row text;
        private int next;
        private int wordStart;
        private int numberStart;
        int faultNumber;
        int faultPlace = NONE;

        Reader(Row text) {
            this.text = text;
        }

        void start() {
            next = 0;
            faultNumber = 0;
            faultPlace = NONE;
        }

        boolean hasFault() {
            return faultNumber != 0;
        }

        private void fail(int number, int place) {
            if (faultNumber == 0) {
                faultNumber = number;
                faultPlace = place;
            }
        }

        void failAtWord(int number) {
            fail(number, wordStart);
        }

        void failAtNumber(int number) {
            fail(number, numberStart);
        }

        boolean hasMore() {
            skipBlanks();
            return !hasFault() && next < text.size();
        }

        private void skipBlanks() {
            while (next < text.size() && text.at(next) == ' ') {
                next++;
            }
        }

        void readWord() {
            skipBlanks();
            wordStart = next;
            while (next < text.size() && isWithin(text.at(next), 'a', 'z')) {
                next++;
            }
        }

        boolean wordIs(String word) {
            if (next - wordStart != word.length()) {
                return false;
            }
            for (int k = 0; k < word.length(); k++) {
                if (text.at(wordStart + k) != word.charAt(k)) {
                    return false;
                }
            }
            return true;
        }

        int readNumber(int low, int high) {
            skipBlanks();
            numberStart = next;
            int value = 0;
            while (next < text.size() && isWithin(text.at(next), '0', '9')) {
                // Four figures are a fault whatever they say, so the sum need not go on.
                if (next - numberStart < 3) {
                    value = value * 10 + text.at(next) - '0';
                }
                next++;
            }
            int figures = next - numberStart;
            if (figures == 0) {
                failAtNumber(CANNOT_STAND);
            } else if (figures > 3 || !isWithin(value, low, high)) {
                failAtNumber(BAD_NUMBER);
            }
            return value;
        }

        void endClause() {
            skipBlanks();
            if (next < text.size() && text.at(next) == ';') {
                next++;
            } else {
                fail(CANNOT_STAND, next);
            }
        }
    }

    /** Takes over what a text tells, but only once the whole of it has no fault. */
    private static final class Scribe {
        private final Row text;
        private final Reader reader;
        private final Site siteDraft = new Site();
        private final Songs songDraft = new Songs();
        private final Row dayDraft = new Row(MOST_DAYS);

        Scribe(Row text) {
            this.text = text;
            reader = new Reader(text);
        }

        int faultPlace() {
            return reader.faultPlace;
        }

        int readQuay(Site site) {
            siteDraft.empty();
            reader.start();
            for (int k = 0; k < MOST_TEXT && reader.hasMore(); k++) {
                readQuayClause();
            }
            text.empty();
            if (reader.hasFault()) {
                return -10 - reader.faultNumber;
            }
            siteDraft.fillUntold();
            site.copy(siteDraft);
            return site.lamps();
        }

        private void readQuayClause() {
            reader.readWord();
            if (reader.wordIs("lamp")) {
                readLamp();
            } else if (reader.wordIs("singer")) {
                readSinger();
            } else if (reader.wordIs("burn")) {
                siteDraft.burn = readOnce(siteDraft.burn, 99);
            } else if (reader.wordIs("moths")) {
                siteDraft.moths = readOnce(siteDraft.moths, 99);
            } else if (reader.wordIs("loud")) {
                siteDraft.loud = readOnce(siteDraft.loud, MOST_LOUD);
            } else {
                reader.failAtWord(Reader.CANNOT_STAND);
            }
        }

        private void readLamp() {
            if (siteDraft.place.isFull()) {
                reader.failAtWord(Reader.ONE_TOO_MANY);
            }
            siteDraft.place.put(reader.readNumber(0, PLACES - 1));
            siteDraft.firstNote.put(reader.readNumber(0, NOTES - 1));
            siteDraft.width.put(reader.readNumber(0, 9));
            siteDraft.flatness.put(reader.readNumber(0, 5));
            reader.endClause();
        }

        private void readSinger() {
            if (siteDraft.stand.isFull()) {
                reader.failAtWord(Reader.ONE_TOO_MANY);
            }
            siteDraft.stand.put(reader.readNumber(0, PLACES - 1));
            siteDraft.strength.put(reader.readNumber(1, MOST_LOUD));
            int lowest = reader.readNumber(0, NOTES - 1);
            siteDraft.lowest.put(lowest);
            siteDraft.highest.put(reader.readNumber(lowest, NOTES - 1));
            reader.endClause();
        }

        /** What is told is never 0, so 0 stands for what was not told yet. */
        private int readOnce(int before, int most) {
            if (before != 0) {
                reader.failAtWord(Reader.ONE_TOO_MANY);
            }
            int value = reader.readNumber(1, most);
            reader.endClause();
            return value;
        }

        int readNight(Songs songs, Site site) {
            songDraft.empty();
            reader.start();
            for (int k = 0; k < MOST_TEXT && reader.hasMore(); k++) {
                readSong(site);
            }
            text.empty();
            if (reader.hasFault()) {
                return -10 - reader.faultNumber;
            }
            songs.copy(songDraft);
            return songs.count();
        }

        private void readSong(Site site) {
            readOnlyWord("sing", songDraft.minute);
            int before = songDraft.minute.at(songDraft.count() - 1);
            int minute = reader.readNumber(0, 599);
            if (minute < before) {
                reader.failAtNumber(Reader.TOO_EARLY);
            }
            int singer = reader.readNumber(0, site.singers() - 1);
            int note = reader.readNumber(site.lowest.at(singer), site.highest.at(singer));
            reader.endClause();
            songDraft.put(minute, singer, note);
        }

        int readMonth(Row days) {
            dayDraft.empty();
            reader.start();
            for (int k = 0; k < MOST_TEXT && reader.hasMore(); k++) {
                readOnlyWord("frost", dayDraft);
                dayDraft.put(reader.readNumber(0, MOST_FROST));
                reader.endClause();
            }
            text.empty();
            if (reader.hasFault()) {
                return -10 - reader.faultNumber;
            }
            days.copy(dayDraft);
            return days.size();
        }

        private void readOnlyWord(String word, Row before) {
            reader.readWord();
            if (!reader.wordIs(word)) {
                reader.failAtWord(Reader.CANNOT_STAND);
            } else if (before.isFull()) {
                reader.failAtWord(Reader.ONE_TOO_MANY);
            }
        }
    }

    /** What a quay's text tells; only the lamps' notes may be other later, by filing. */
    private static final class Site {
        final Row place = new Row(MOST_LAMPS);
        final Row firstNote = new Row(MOST_LAMPS);
        final Row width = new Row(MOST_LAMPS);
        final Row flatness = new Row(MOST_LAMPS);
        final Row stand = new Row(MOST_SINGERS);
        final Row strength = new Row(MOST_SINGERS);
        final Row lowest = new Row(MOST_SINGERS);
        final Row highest = new Row(MOST_SINGERS);
        int burn;
        int moths;
        int loud;

        int lamps() {
            return place.size();
        }

        int allLamps() {
            return (1 << place.size()) - 1;
        }

        int singers() {
            return stand.size();
        }

        void empty() {
            place.empty();
            firstNote.empty();
            width.empty();
            flatness.empty();
            stand.empty();
            strength.empty();
            lowest.empty();
            highest.empty();
            burn = 0;
            moths = 0;
            loud = 0;
        }

        void fillUntold() {
            burn = burn == 0 ? 20 : burn;
            moths = moths == 0 ? 30 : moths;
            loud = loud == 0 ? 5 : loud;
        }

        void copy(Site other) {
            place.copy(other.place);
            firstNote.copy(other.firstNote);
            width.copy(other.width);
            flatness.copy(other.flatness);
            stand.copy(other.stand);
            strength.copy(other.strength);
            lowest.copy(other.lowest);
            highest.copy(other.highest);
            burn = other.burn;
            moths = other.moths;
            loud = other.loud;
        }
    }

    /** A night's songs, in the order in which they are sung. */
    private static final class Songs {
        final Row minute = new Row(MOST_SONGS);
        final Row singer = new Row(MOST_SONGS);
        final Row note = new Row(MOST_SONGS);

        int count() {
            return minute.size();
        }

        void put(int atMinute, int bySinger, int ofNote) {
            minute.put(atMinute);
            singer.put(bySinger);
            note.put(ofNote);
        }

        void empty() {
            minute.empty();
            singer.empty();
            note.empty();
        }

        void copy(Songs other) {
            minute.copy(other.minute);
            singer.copy(other.singer);
            note.copy(other.note);
        }
    }

    /** All that an image keeps: what minutes, weather and filing change. */
    private static final class Moment {
        final Site site;
        final int[] note = new int[MOST_LAMPS];
        final int[] left = new int[MOST_LAMPS];
        final int[] moths = new int[MOST_LAMPS];
        final int[] leader = new int[MOST_LAMPS];
        int minute;
        int frost;
        int wind;
        int drawn;
        // Of an image alone: copies don't hand it on.
        boolean isKept;

        Moment(Site site) {
            this.site = site;
        }

        /** The seed stays when the quay becomes another one. */
        void startOn() {
            for (int l = 0; l < MOST_LAMPS; l++) {
                note[l] = site.firstNote.at(l);
            }
            frost = 0;
            wind = 0;
            darken();
        }

        void darken() {
            for (int l = 0; l < MOST_LAMPS; l++) {
                left[l] = 0;
                moths[l] = 0;
                leader[l] = NONE;
            }
            minute = 0;
        }

        void copy(Moment other) {
            for (int l = 0; l < MOST_LAMPS; l++) {
                note[l] = other.note[l];
                left[l] = other.left[l];
                moths[l] = other.moths[l];
                leader[l] = other.leader[l];
            }
            minute = other.minute;
            frost = other.frost;
            wind = other.wind;
            drawn = other.drawn;
        }

        int noteOf(int l) {
            return l >= 0 && l < MOST_LAMPS ? note[l] : 0;
        }

        int ear(int l) {
            return noteOf(l) - site.flatness.at(l) * frost;
        }

        int woken(int place, int sung, int loud) {
            int set = 0;
            for (int l = 0; l < site.lamps(); l++) {
                boolean isHeard = Math.abs(ear(l) - sung) <= site.width.at(l);
                if (isHeard && Math.abs(site.place.at(l) - place) < loud) {
                    set |= 1 << l;
                }
            }
            return set;
        }

        void light(int set, int by) {
            for (int l = 0; l < MOST_LAMPS; l++) {
                if ((set >> l & 1) != 0) {
                    left[l] = site.burn;
                    leader[l] = by;
                }
            }
        }

        void passMinute(Songs songs) {
            for (int k = 0; k < songs.count(); k++) {
                if (songs.minute.at(k) == minute) {
                    int s = songs.singer.at(k);
                    light(woken(site.stand.at(s), songs.note.at(k), site.strength.at(s)), s);
                }
            }
            if (wind > 0) {
                int place = draw(PLACES);
                int blown = draw(NOTES);
                light(woken(place, blown, wind), WIND);
            }
            burnDown();
            minute++;
        }

        private int draw(int n) {
            // What wraps around is above the 31 bits that are left over.
            drawn = (drawn * 1103515245 + 12345) & LOW_31_BITS;
            return n > 0 ? (drawn / 65536) % n : 0;
        }

        private void burnDown() {
            for (int l = 0; l < MOST_LAMPS; l++) {
                if (left[l] > 0) {
                    left[l]--;
                }
                if (left[l] > 0 && moths[l] < MOST_MOTHS) {
                    moths[l]++;
                }
            }
        }

        int burning() {
            int set = 0;
            for (int l = 0; l < MOST_LAMPS; l++) {
                if (left[l] > 0) {
                    set |= 1 << l;
                }
            }
            return set;
        }

        int seen() {
            int set = 0;
            for (int l = 0; l < MOST_LAMPS; l++) {
                if (left[l] > 0 && moths[l] < site.moths) {
                    set |= 1 << l;
                }
            }
            return set;
        }
    }

    /** For every place and note which lamps a sound would wake, worked out once for many questions. */
    private static final class Hearing {
        private final int[] sets = new int[PLACES * NOTES];

        void listen(Moment moment, int loud) {
            Arrays.fill(sets, 0);
            for (int l = 0; l < moment.site.lamps(); l++) {
                int at = moment.site.place.at(l);
                int last = Math.min(at + loud - 1, PLACES - 1);
                for (int place = Math.max(at - loud + 1, 0); place <= last; place++) {
                    hearFrom(place, moment.ear(l), moment.site.width.at(l), 1 << l);
                }
            }
        }

        private void hearFrom(int place, int ear, int width, int bit) {
            int last = Math.min(ear + width, NOTES - 1);
            for (int note = Math.max(ear - width, 0); note <= last; note++) {
                sets[place * NOTES + note] |= bit;
            }
        }

        int at(int place, int note) {
            boolean isThere = isWithin(place, 0, PLACES - 1) && isWithin(note, 0, NOTES - 1);
            return isThere ? sets[place * NOTES + note] : 0;
        }

        boolean hasJust(int place, int set) {
            for (int note = 0; note < NOTES; note++) {
                if (at(place, note) == set) {
                    return true;
                }
            }
            return false;
        }
    }

    /**
     * Luring: lamps only ever come to burn, so it is a question of the fewest sets, none with a lamp that must stay
     * dark, that hold together what is missing.
     */
    private static final class Whistles {
        // More than the 252 sets of ten lamps of which none can hold another one.
        private static final int MOST_LARGEST = 256;

        private final Hearing hearing;
        private final Row sounded = new Row(SETS);
        private final int[] isSounded = new int[SETS];
        private final Row largest = new Row(MOST_LARGEST);
        private final int[] least = new int[SETS];
        private final int[] reached = new int[NOTES];

        Whistles(Hearing hearing) {
            this.hearing = hearing;
        }

        /** Many sounds wake the same lamps: each set that some sound wakes is looked at once. */
        void gather(long notes) {
            sounded.empty();
            Arrays.fill(isSounded, 0);
            for (int place = 0; place < PLACES; place++) {
                for (int note = 0; note < NOTES; note++) {
                    int set = hearing.at(place, note);
                    if ((notes >>> note & 1) != 0 && set >= 0 && set < SETS && isSounded[set] == 0) {
                        isSounded[set] = 1;
                        sounded.put(set);
                    }
                }
            }
        }

        /** Behind gather. */
        int fewestSounds(int from, int to) {
            if ((from & ~to) != 0) {
                return NONE;
            }
            int missing = to & ~from;
            largest.empty();
            for (int k = 0; k < sounded.size(); k++) {
                int set = sounded.at(k);
                if ((set & ~to) == 0 && (set & missing) != 0) {
                    largest.putIfLargest(set & missing);
                }
            }
            return fewestThatHold(missing);
        }

        int fewestNotes(int from, int to) {
            if ((from & ~to) != 0) {
                return NONE;
            }
            int missing = to & ~from;
            largest.empty();
            for (int note = 0; note < NOTES; note++) {
                reached[note] = reach(note, to) & missing;
                if (reached[note] != 0) {
                    largest.putIfLargest(reached[note]);
                }
            }
            return fewestThatHold(missing);
        }

        private int reach(int note, int to) {
            int reach = 0;
            for (int place = 0; place < PLACES; place++) {
                int set = hearing.at(place, note);
                if ((set & ~to) == 0) {
                    reach |= set;
                }
            }
            return reach;
        }

        /**
         * Behind fewestNotes. Taking the least note that leaves one note less to find gives them rising: a lesser one
         * that would do later on would have done before.
         */
        int noteOfFewest(int missing, int i) {
            int rest = missing;
            int note = NONE;
            for (int k = 0; k <= i; k++) {
                note = firstUseful(rest);
                if (note == NONE) {
                    return NONE;
                }
                rest &= ~reached[note];
            }
            return note;
        }

        private int firstUseful(int rest) {
            for (int note = 0; note < NOTES; note++) {
                if (leastFor(rest & ~reached[note]) < leastFor(rest)) {
                    return note;
                }
            }
            return NONE;
        }

        private int leastFor(int set) {
            return set >= 0 && set < SETS ? least[set] : NEVER;
        }

        private int fewestThatHold(int top) {
            least[0] = 0;
            for (int set = 1; set <= top && set < SETS; set++) {
                if ((set & ~top) == 0) {
                    least[set] = leastByLowest(set);
                }
            }
            int fewest = leastFor(top);
            return fewest < NEVER ? fewest : NONE;
        }

        /** One of those that are chosen has to hold the lowest lamp, so no others need to be tried first. */
        private int leastByLowest(int set) {
            int lowest = set & -set;
            int best = NEVER;
            for (int k = 0; k < largest.size(); k++) {
                int chosen = largest.at(k);
                if ((chosen & lowest) != 0) {
                    best = Math.min(best, leastFor(set & ~chosen) + 1);
                }
            }
            return best;
        }
    }

    /**
     * The hummer's round. What a hum wakes doesn't depend on when it is hummed, so all that is hummed after going back
     * could be hummed on the way there: a round in the fewest minutes never goes back. Of the sets that may be woken
     * at a place only those count that have all lamps that are too far behind to be woken any more.
     */
    private static final class Tour {
        private static final int MOST_STEPS = PLACES - 1 + MOST_LAMPS;

        private final Hearing hearing;
        private final int[] minutesLeft = new int[PLACES * SETS];
        private final int[] behind = new int[PLACES];
        private final Row largest = new Row(NOTES);
        private final Row steps = new Row(MOST_STEPS);
        private int lastPlace;
        private boolean canBe;
        boolean isFound;

        Tour(Hearing hearing) {
            this.hearing = hearing;
        }

        int minutes() {
            return canBe ? steps.size() : NONE;
        }

        int step(int j) {
            return canBe && j >= 0 && j < steps.size() ? steps.at(j) : NONE;
        }

        void find(Moment moment) {
            if (isFound) {
                return;
            }
            hearing.listen(moment, moment.site.loud);
            lastPlace = lastUseful(moment.site);
            for (int place = lastPlace; place >= 0 && place < PLACES; place--) {
                behind[place] = behindAt(moment.site, place);
                gatherLargest(place);
                countMinutesAt(place, nearTo(moment.site, place), moment.site.allLamps());
            }
            writeSteps();
            isFound = true;
        }

        /** The first place at which a hum is heard as far on as any lamp is: farther on fewer are near and none new. */
        private static int lastUseful(Site site) {
            int last = 0;
            for (int l = 0; l < site.lamps(); l++) {
                last = Math.max(last, site.place.at(l) - site.loud + 1);
            }
            return last;
        }

        private static int behindAt(Site site, int place) {
            int set = 0;
            for (int l = 0; l < site.lamps(); l++) {
                if (place - site.place.at(l) >= site.loud) {
                    set |= 1 << l;
                }
            }
            return set;
        }

        private static int nearTo(Site site, int place) {
            int set = 0;
            for (int l = 0; l < site.lamps(); l++) {
                if (Math.abs(place - site.place.at(l)) < site.loud) {
                    set |= 1 << l;
                }
            }
            return set;
        }

        private void gatherLargest(int place) {
            largest.empty();
            for (int note = 0; note < NOTES; note++) {
                int set = hearing.at(place, note);
                if (set != 0) {
                    largest.putIfLargest(set);
                }
            }
        }

        /** Larger sets come first, as a hum leads to them. */
        private void countMinutesAt(int place, int near, int all) {
            int chosen = near;
            for (int k = 0; k < SETS && chosen >= 0; k++) {
                int woken = behind[place] | chosen;
                if (woken < SETS) {
                    minutesLeft[place * SETS + woken] = woken == all ? 0 : fewestFrom(place, woken);
                }
                chosen = chosen == 0 ? NONE : (chosen - 1) & near;
            }
        }

        private int fewestFrom(int place, int woken) {
            int best = minutesFrom(place + 1, woken) + 1;
            for (int k = 0; k < largest.size(); k++) {
                int then = woken | largest.at(k);
                if (then != woken) {
                    best = Math.min(best, minutesFrom(place, then) + 1);
                }
            }
            return Math.min(best, NEVER);
        }

        private int minutesFrom(int place, int woken) {
            boolean isThere = isWithin(place, 0, Math.min(lastPlace, PLACES - 1)) && isWithin(woken, 0, SETS - 1);
            return isThere && (behind[place] & ~woken) == 0 ? minutesLeft[place * SETS + woken] : NEVER;
        }

        private void writeSteps() {
            steps.empty();
            int minutes = minutesFrom(0, 0);
            canBe = minutes < NEVER;
            int place = 0;
            int woken = 0;
            for (int rest = minutes - 1; canBe && rest >= 0; rest--) {
                int note = firstHum(place, woken, rest);
                if (note == NONE) {
                    steps.put(STEP_ON);
                    place++;
                } else {
                    steps.put(note);
                    woken |= hearing.at(place, note);
                }
            }
        }

        private int firstHum(int place, int woken, int rest) {
            for (int note = 0; note < NOTES; note++) {
                if (minutesFrom(place, woken | hearing.at(place, note)) == rest) {
                    return note;
                }
            }
            return NONE;
        }

        int wokenBy(Moment moment) {
            int place = 0;
            int woken = 0;
            for (int k = 0; k < steps.size(); k++) {
                if (steps.at(k) == STEP_ON) {
                    place++;
                } else {
                    woken |= moment.woken(place, steps.at(k), moment.site.loud);
                }
            }
            return woken;
        }
    }

    /** What filing would give; it files nothing itself. */
    private static final class Filing {
        private final Moment now;
        final int[] parted = new int[MOST_LAMPS];
        private final int[] restSum = new int[SETS];

        Filing(Moment now) {
            this.now = now;
        }

        /** Fills what each lamp's note would be, so that no hum wakes two: how much in all, or NONE. */
        int partAll() {
            int sum = 0;
            int done = 0;
            int before = 0;
            for (int k = 0; k < now.site.lamps(); k++) {
                int l = lowestBut(done);
                int own = now.noteOf(l);
                int note = leastFree(l, Math.max(own, before), done);
                if (note == NONE || l < 0 || l >= MOST_LAMPS) {
                    return NONE;
                }
                parted[l] = note;
                sum += note - own;
                done |= 1 << l;
                before = note;
            }
            return sum;
        }

        private int lowestBut(int done) {
            int lowest = NONE;
            for (int l = 0; l < now.site.lamps(); l++) {
                if ((done >> l & 1) == 0 && (lowest == NONE || now.noteOf(l) < now.noteOf(lowest))) {
                    lowest = l;
                }
            }
            return lowest;
        }

        private int leastFree(int l, int from, int done) {
            for (int note = from; note < NOTES; note++) {
                if (!isWokenWithOne(l, note, done)) {
                    return note;
                }
            }
            return NONE;
        }

        private boolean isWokenWithOne(int l, int note, int done) {
            for (int other = 0; other < MOST_LAMPS; other++) {
                if ((done >> other & 1) != 0 && isWokenWith(l, note, other)) {
                    return true;
                }
            }
            return false;
        }

        /** A hum midway between two lamps reaches both, if any does. */
        private boolean isWokenWith(int l, int note, int other) {
            Site site = now.site;
            if (Math.abs(site.place.at(l) - site.place.at(other)) > 2 * (site.loud - 1)) {
                return false;
            }
            int otherNote = other >= 0 && other < MOST_LAMPS ? parted[other] : 0;
            int ear = note - site.flatness.at(l) * now.frost;
            int otherEar = otherNote - site.flatness.at(other) * now.frost;
            int low = Math.max(ear - site.width.at(l), otherEar - site.width.at(other));
            int high = Math.min(ear + site.width.at(l), otherEar + site.width.at(other));
            return Math.max(low, 0) <= Math.min(high, NOTES - 1);
        }

        /** The least sum for each set of lamps that have a note already: the notes from the first on, as many. */
        int leastSum(int u, int step, int n) {
            int all = now.site.allLamps();
            for (int used = all; used >= 0; used--) {
                int k = Integer.bitCount(used);
                if (used < SETS && k <= n) {
                    restSum[used] = k == n ? 0 : leastRest(used, u + k * step);
                }
            }
            return restSum[0] < NEVER ? restSum[0] : NONE;
        }

        private int leastRest(int used, int note) {
            int best = NEVER;
            for (int l = 0; l < now.site.lamps(); l++) {
                best = Math.min(best, restWith(used, l, note));
            }
            return best;
        }

        private int restWith(int used, int l, int note) {
            int then = used | 1 << l;
            if (then == used || then >= SETS || now.noteOf(l) > note) {
                return NEVER;
            }
            return note - now.noteOf(l) + restSum[then];
        }

        /** Behind leastSum: the lesser lamp wins note by note, so the first that keeps the sum is taken. */
        int lampOfTuned(int u, int step, int j) {
            int used = 0;
            int found = NONE;
            for (int k = 0; k <= j; k++) {
                found = firstKeepingSum(used, u + k * step);
                if (found == NONE) {
                    return NONE;
                }
                used |= 1 << found;
            }
            return found;
        }

        private int firstKeepingSum(int used, int note) {
            for (int l = 0; l < now.site.lamps(); l++) {
                if (used < SETS && restWith(used, l, note) == restSum[used]) {
                    return l;
                }
            }
            return NONE;
        }
    }
}

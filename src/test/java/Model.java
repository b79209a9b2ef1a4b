import java.util.ArrayList;
import java.util.Arrays;
import java.util.List;
import java.util.TreeMap;

/** The document once more, by plain trying and without a thought for speed. Only ModelTest and TextTest use it. */
final class Model {
    private static final int NONE = -1, WIND = -2, HUMMER = -3, UNKNOWN = -1001, OUTSIDE = -1002, NOT = -1003, FULL = -1004;

    private static final class Lamp {
        int place, note, width, flat, left, moths, leader = NONE;

        Lamp copy() {
            Lamp l = new Lamp();
            l.place = place;
            l.note = note;
            l.width = width;
            l.flat = flat;
            l.left = left;
            l.moths = moths;
            l.leader = leader;
            return l;
        }
    }

    private static final class Image {
        List<Lamp> lamps = new ArrayList<>();
        int minute, frost, wind;
        long seed;
    }

    private StringBuilder text = new StringBuilder();
    private List<Lamp> lamps = new ArrayList<>();
    private List<int[]> singers = new ArrayList<>();
    private List<int[]> songs = new ArrayList<>();
    private List<Integer> days = new ArrayList<>();
    private List<Integer> signals = new ArrayList<>();
    private List<Integer> entries = new ArrayList<>();
    private int burn = 20, moths = 30, loud = 5;
    private int minute, frost, wind;
    private long seed;
    private int fault = NONE;
    private final Image[] images = new Image[2];

    // ---- texts

    int feed(int n, long bytes) {
        if (n < 1 || n > 8) {
            return OUTSIDE;
        }
        if (text.length() + n > 400) {
            return FULL;
        }
        StringBuilder s = new StringBuilder();
        for (int k = 0; k < n; k++) {
            s.insert(0, (char) (bytes & 255));
            bytes >>= 8;
        }
        text.append(s);
        return text.length();
    }

    private static final class Fault extends Exception {
        private static final long serialVersionUID = 1;
        final int kind, place;

        Fault(int kind, int place) {
            this.kind = kind;
            this.place = place;
        }
    }

    /** A piece of a text: a word, a number, or one other byte; the end is an empty one. */
    private record Piece(String text, int place) {
        boolean isWord() {
            return text.matches("[a-z]+");
        }

        boolean isNumber() {
            return text.matches("[0-9]+");
        }
    }

    private static List<Piece> pieces(String text) {
        List<Piece> found = new ArrayList<>();
        java.util.regex.Matcher m = java.util.regex.Pattern.compile("[a-z]+|[0-9]+|[^ ]", java.util.regex.Pattern.DOTALL).matcher(text);
        while (m.find()) {
            found.add(new Piece(m.group(), m.start()));
        }
        found.add(new Piece("", text.length()));
        return found;
    }

    private static int number(Piece p, int low, int high) throws Fault {
        if (!p.isNumber()) {
            throw new Fault(1, p.place());
        }
        if (p.text().length() > 3 || Integer.parseInt(p.text()) < low || Integer.parseInt(p.text()) > high) {
            throw new Fault(2, p.place());
        }
        return Integer.parseInt(p.text());
    }

    private static void semicolon(Piece p) throws Fault {
        if (!p.text().equals(";")) {
            throw new Fault(1, p.place());
        }
    }

    int quay() {
        List<Piece> all = pieces(take());
        List<Lamp> newLamps = new ArrayList<>();
        List<int[]> newSingers = new ArrayList<>();
        TreeMap<String, Integer> once = new TreeMap<>();
        fault = NONE;
        try {
            int k = 0;
            while (!all.get(k).text().isEmpty()) {
                Piece word = all.get(k++);
                switch (word.text()) {
                    case "lamp" -> {
                        if (newLamps.size() == 10) {
                            throw new Fault(3, word.place());
                        }
                        Lamp l = new Lamp();
                        l.place = number(all.get(k++), 0, 49);
                        l.note = number(all.get(k++), 0, 63);
                        l.width = number(all.get(k++), 0, 9);
                        l.flat = number(all.get(k++), 0, 5);
                        newLamps.add(l);
                    }
                    case "singer" -> {
                        if (newSingers.size() == 8) {
                            throw new Fault(3, word.place());
                        }
                        int[] s = new int[4];
                        s[0] = number(all.get(k++), 0, 49);
                        s[1] = number(all.get(k++), 1, 50);
                        s[2] = number(all.get(k++), 0, 63);
                        s[3] = number(all.get(k++), s[2], 63);
                        newSingers.add(s);
                    }
                    case "burn", "moths", "loud" -> {
                        if (once.containsKey(word.text())) {
                            throw new Fault(3, word.place());
                        }
                        once.put(word.text(), number(all.get(k++), 1, word.text().equals("loud") ? 50 : 99));
                    }
                    default -> throw new Fault(1, word.place());
                }
                semicolon(all.get(k++));
            }
        } catch (Fault f) {
            fault = f.place;
            return -10 - f.kind;
        }
        lamps = newLamps;
        singers = newSingers;
        burn = once.getOrDefault("burn", 20);
        moths = once.getOrDefault("moths", 30);
        loud = once.getOrDefault("loud", 5);
        songs = new ArrayList<>();
        signals.clear();
        entries.clear();
        images[0] = null;
        images[1] = null;
        frost = 0;
        wind = 0;
        minute = 0;
        return lamps.size();
    }

    int night() {
        List<Piece> all = pieces(take());
        List<int[]> told = new ArrayList<>();
        fault = NONE;
        try {
            for (int k = 0; !all.get(k).text().isEmpty(); k += 5) {
                if (!all.get(k).text().equals("sing")) {
                    throw new Fault(1, all.get(k).place());
                }
                if (told.size() == 30) {
                    throw new Fault(3, all.get(k).place());
                }
                int[] song = new int[3];
                song[0] = number(all.get(k + 1), 0, 599);
                if (!told.isEmpty() && song[0] < told.get(told.size() - 1)[0]) {
                    throw new Fault(4, all.get(k + 1).place());
                }
                song[1] = number(all.get(k + 2), 0, singers.size() - 1);
                song[2] = number(all.get(k + 3), singers.get(song[1])[2], singers.get(song[1])[3]);
                semicolon(all.get(k + 4));
                told.add(song);
            }
        } catch (Fault f) {
            fault = f.place;
            return -10 - f.kind;
        }
        songs = told;
        return songs.size();
    }

    int month() {
        if (text.length() > 200) {
            return NOT;
        }
        List<Piece> all = pieces(take());
        List<Integer> told = new ArrayList<>();
        fault = NONE;
        try {
            for (int k = 0; !all.get(k).text().isEmpty(); k += 3) {
                if (!all.get(k).text().equals("frost")) {
                    throw new Fault(1, all.get(k).place());
                }
                if (told.size() == 30) {
                    throw new Fault(3, all.get(k).place());
                }
                told.add(number(all.get(k + 1), 0, 9));
                semicolon(all.get(k + 2));
            }
        } catch (Fault f) {
            fault = f.place;
            return -10 - f.kind;
        }
        days = told;
        return days.size();
    }

    private String take() {
        String was = text.toString();
        text = new StringBuilder();
        return was;
    }

    int fault() {
        return fault;
    }

    int told(int what) {
        int[] all = {lamps.size(), singers.size(), songs.size(), days.size(), signals.size(), entries.size(),
            text.length(), burn, moths, loud, minute, frost, wind};
        return what < 0 || what >= all.length ? OUTSIDE : all[what];
    }

    int lamp(int l, int what) {
        if (l < 0 || l >= lamps.size()) {
            return UNKNOWN;
        }
        Lamp x = lamps.get(l);
        int[] all = {x.place, x.note, x.width, x.flat, x.note - x.flat * frost, x.left, x.moths, x.leader};
        return what < 0 || what >= all.length ? OUTSIDE : all[what];
    }

    int singer(int s, int what) {
        if (s < 0 || s >= singers.size()) {
            return UNKNOWN;
        }
        return what < 0 || what > 3 ? OUTSIDE : singers.get(s)[what];
    }

    // ---- minutes

    int weather(int what, int v) {
        if (what != 0 && what != 1 || v < 0 || v > (what == 0 ? 9 : 50)) {
            return OUTSIDE;
        }
        int was = what == 0 ? frost : wind;
        if (what == 0) {
            frost = v;
        } else {
            wind = v;
        }
        return was;
    }

    private int woken(int place, int note, int loudness, int frostThen) {
        int set = 0;
        for (int l = 0; l < lamps.size(); l++) {
            Lamp x = lamps.get(l);
            int ear = x.note - x.flat * frostThen;
            if (note - ear <= x.width && ear - note <= x.width && x.place - place < loudness && place - x.place < loudness) {
                set += 1 << l;
            }
        }
        return set;
    }

    private void light(int set, int leader) {
        for (int l = 0; l < lamps.size(); l++) {
            if ((set >> l) % 2 == 1) {
                lamps.get(l).left = burn;
                lamps.get(l).leader = leader;
            }
        }
    }

    private static boolean isSpot(int place, int note) {
        return place >= 0 && place <= 49 && note >= 0 && note <= 63;
    }

    int wakes(int place, int note, int loudness) {
        return !isSpot(place, note) || loudness < 1 || loudness > 50 ? OUTSIDE : woken(place, note, loudness, frost);
    }

    int hum(int place, int note) {
        if (!isSpot(place, note)) {
            return OUTSIDE;
        }
        int set = woken(place, note, loud, frost);
        light(set, HUMMER);
        return set;
    }

    private int draw(int n) {
        seed = (seed * 1103515245L + 12345L) % (1L << 31);
        return (int) (seed / 65536 % n);
    }

    private void pass() {
        for (int[] song : songs) {
            if (song[0] == minute) {
                int[] s = singers.get(song[1]);
                light(woken(s[0], song[2], s[1], frost), song[1]);
            }
        }
        if (wind > 0) {
            int place = draw(50);
            int note = draw(64);
            light(woken(place, note, wind, frost), WIND);
        }
        for (Lamp x : lamps) {
            if (x.left > 0) {
                x.left--;
                if (x.left > 0) {
                    x.moths = Math.min(99, x.moths + 1);
                }
            }
        }
        minute++;
    }

    int run(int n) {
        if (n < 1 || n > 300) {
            return OUTSIDE;
        }
        for (int k = 0; k < n; k++) {
            pass();
        }
        return lit(0);
    }

    int lit(int what) {
        if (what != 0 && what != 1) {
            return OUTSIDE;
        }
        int set = 0;
        for (int l = 0; l < lamps.size(); l++) {
            if (lamps.get(l).left > 0 && (what == 0 || lamps.get(l).moths < moths)) {
                set += 1 << l;
            }
        }
        return set;
    }

    int dark() {
        int was = minute;
        minute = 0;
        for (Lamp x : lamps) {
            x.left = 0;
            x.moths = 0;
            x.leader = NONE;
        }
        return was;
    }

    int sweep(int l) {
        if (l < 0 || l >= lamps.size()) {
            return UNKNOWN;
        }
        int was = lamps.get(l).moths;
        lamps.get(l).moths = 0;
        return was;
    }

    // ---- the round

    /** Steps tried in their order, breadth first, going back too: what is found first is the round; null: none. */
    private List<Integer> steps() {
        int all = (1 << lamps.size()) - 1;
        int[] from = new int[50 * 1024];
        int[] by = new int[50 * 1024];
        Arrays.fill(from, -2);
        int[] queue = new int[50 * 1024];
        int head = 0;
        int tail = 0;
        queue[tail++] = 0;
        from[0] = -1;
        while (head < tail) {
            int state = queue[head++];
            int place = state / 1024;
            int set = state % 1024;
            if (set == all) {
                return path(state, from, by);
            }
            for (int step = 0; step < 66; step++) {
                int newPlace = step == 64 ? place + 1 : step == 65 ? place - 1 : place;
                if (newPlace < 0 || newPlace > 49) {
                    continue;
                }
                int then = newPlace * 1024 + (step < 64 ? set | woken(place, step, loud, frost) : set);
                if (from[then] == -2) {
                    from[then] = state;
                    by[then] = step;
                    queue[tail++] = then;
                }
            }
        }
        return null;
    }

    private static List<Integer> path(int state, int[] from, int[] by) {
        List<Integer> steps = new ArrayList<>();
        for (int s = state; from[s] != -1; s = from[s]) {
            steps.add(0, by[s]);
        }
        return steps;
    }

    int round(int j) {
        List<Integer> steps = steps();
        if (steps == null || j < -1 || j >= steps.size()) {
            return NONE;
        }
        return j == -1 ? steps.size() : steps.get(j);
    }

    // ---- signals, whistles

    private boolean hasUnknown(int set) {
        return set < 0 || set >= 1 << lamps.size();
    }

    int signal(int set) {
        if (hasUnknown(set)) {
            return UNKNOWN;
        }
        if (signals.contains(set)) {
            return NOT;
        }
        if (signals.size() == 8) {
            return FULL;
        }
        signals.add(set);
        return signals.size() - 1;
    }

    int forget() {
        int were = signals.size();
        signals.clear();
        return were;
    }

    int shows() {
        return signals.indexOf(lit(1));
    }

    /** Sounds tried breadth first from the one set on. */
    private int lure(int from, int to, long notes, int l) {
        boolean[] sound = new boolean[1024];
        for (int place = 0; place < 50; place++) {
            for (int note = 0; note < 64; note++) {
                if ((notes >>> note) % 2 != 0) {
                    sound[woken(place, note, l, frost)] = true;
                }
            }
        }
        int[] after = new int[1024];
        Arrays.fill(after, NONE);
        after[from] = 0;
        List<Integer> queue = new ArrayList<>(List.of(from));
        for (int k = 0; k < queue.size(); k++) {
            int set = queue.get(k);
            for (int s = 0; s < 1024; s++) {
                if (sound[s] && after[set | s] == NONE) {
                    after[set | s] = after[set] + 1;
                    queue.add(set | s);
                }
            }
        }
        return after[to];
    }

    int lured(int from, int to, long notes, int l) {
        if (hasUnknown(from) || hasUnknown(to)) {
            return UNKNOWN;
        }
        return l < 1 || l > 50 ? OUTSIDE : lure(from, to, notes, l);
    }

    int apart(long notes, int l, int d, int i) {
        if (l < 1 || l > 50 || d < 1 || d > 9) {
            return OUTSIDE;
        }
        List<Integer> pairs = new ArrayList<>();
        for (int a = 0; a < signals.size(); a++) {
            for (int b = 0; b < signals.size(); b++) {
                int sounds = a == b ? NONE : lure(signals.get(a), signals.get(b), notes, l);
                if (sounds != NONE && sounds < d) {
                    pairs.add(100 * a + b);
                }
            }
        }
        if (i == NONE) {
            return pairs.size();
        }
        return i < 0 || i >= pairs.size() ? NONE : pairs.get(i);
    }

    int fewest(int from, int to, int l, int i) {
        if (hasUnknown(from) || hasUnknown(to)) {
            return UNKNOWN;
        }
        if (l < 1 || l > 50) {
            return OUTSIDE;
        }
        int[] reach = new int[64];
        List<Integer> worth = new ArrayList<>();
        for (int note = 0; note < 64; note++) {
            boolean isNew = true;
            for (int place = 0; place < 50; place++) {
                int set = woken(place, note, l, frost);
                reach[note] |= (set | to) == to ? set : 0;
            }
            for (int before = 0; before < note; before++) {
                isNew &= reach[before] != reach[note];
            }
            if (isNew && reach[note] != 0) {
                worth.add(note);
            }
        }
        for (int size = 0; size <= 10; size++) {
            List<Integer> chosen = choose(from, to, reach, worth, 0, size);
            if (chosen != null) {
                return i == NONE ? size : i < 0 || i >= size ? NONE : chosen.get(i);
            }
        }
        return NONE;
    }

    /** All choices of so many notes, in rising order: the first that does. */
    private static List<Integer> choose(int have, int to, int[] reach, List<Integer> worth, int at, int size) {
        if (size == 0) {
            return have == to ? new ArrayList<>() : null;
        }
        for (int k = at; k < worth.size(); k++) {
            List<Integer> rest = choose(have | reach[worth.get(k)], to, reach, worth, k + 1, size - 1);
            if (rest != null) {
                rest.add(0, worth.get(k));
                return rest;
            }
        }
        return null;
    }

    int who(int set) {
        if (hasUnknown(set)) {
            return UNKNOWN;
        }
        int found = 0;
        for (int s = 0; s < singers.size(); s++) {
            int[] x = singers.get(s);
            for (int note = x[2]; note <= x[3]; note++) {
                if (woken(x[0], note, x[1], frost) == set) {
                    found |= 1 << s;
                }
            }
        }
        return found;
    }

    int where(int set, int l) {
        if (hasUnknown(set)) {
            return UNKNOWN;
        }
        if (l < 1 || l > 50) {
            return OUTSIDE;
        }
        int places = 0;
        for (int place = 0; place < 50; place++) {
            boolean isOne = false;
            for (int note = 0; note < 64; note++) {
                isOne |= woken(place, note, l, frost) == set;
            }
            places += isOne ? 1 : 0;
        }
        return places;
    }

    // ---- filing

    int file(int l, int note) {
        if (l < 0 || l >= lamps.size()) {
            return UNKNOWN;
        }
        int was = lamps.get(l).note;
        if (note <= was || note > 63) {
            return OUTSIDE;
        }
        lamps.get(l).note = note;
        return note - was;
    }

    int alone(int l) {
        if (l != NONE && (l < 0 || l >= lamps.size())) {
            return UNKNOWN;
        }
        List<Lamp> were = lamps;
        List<Integer> order = new ArrayList<>();
        for (int k = 0; k < lamps.size(); k++) {
            order.add(k);
        }
        order.sort((a, b) -> were.get(a).note - were.get(b).note);
        lamps = new ArrayList<>();
        int[] filed = new int[10];
        int sum = 0;
        for (int k : order) {
            Lamp x = were.get(k).copy();
            x.note = lamps.isEmpty() ? x.note : Math.max(x.note, lamps.get(lamps.size() - 1).note);
            lamps.add(x);
            while (x.note < 64 && lastIsWokenWithAnother()) {
                x.note++;
            }
            filed[k] = x.note;
            sum += x.note - were.get(k).note;
            if (x.note > 63) {
                lamps = were;
                return NONE;
            }
        }
        lamps = were;
        return l == NONE ? sum : filed[l];
    }

    private boolean lastIsWokenWithAnother() {
        int last = 1 << lamps.size() - 1;
        for (int place = 0; place < 50; place++) {
            for (int note = 0; note < 64; note++) {
                if (woken(place, note, loud, frost) > last) {
                    return true;
                }
            }
        }
        return false;
    }

    int tuned(int u, int step, int n, int j) {
        if (u < 0 || u > 63 || step < 1 || step > 9 || n < 1 || n > 10) {
            return OUTSIDE;
        }
        if (n > lamps.size() || u + (n - 1) * step > 63) {
            return NOT;
        }
        int[] best = new int[11];
        best[10] = Integer.MAX_VALUE;
        tryRows(u, step, n, new int[11], 0, best);
        if (best[10] == Integer.MAX_VALUE) {
            return NONE;
        }
        return j == NONE ? best[10] : j < 0 || j >= n ? NONE : best[j];
    }

    /** All rows of lamps in their order; slot 10 is the sum. Only a lesser sum is better than what came before. */
    private void tryRows(int u, int step, int n, int[] row, int k, int[] best) {
        if (row[10] >= best[10]) {
            return;
        }
        if (k == n) {
            System.arraycopy(row, 0, best, 0, 11);
            return;
        }
        for (int l = 0; l < lamps.size(); l++) {
            int by = u + k * step - lamps.get(l).note;
            boolean isFree = by >= 0;
            for (int before = 0; before < k; before++) {
                isFree &= row[before] != l;
            }
            if (isFree) {
                row[k] = l;
                row[10] += by;
                tryRows(u, step, n, row, k + 1, best);
                row[10] -= by;
            }
        }
    }

    // ---- months, logs

    int flat(int what) {
        if (what < 0 || what >= 2 + days.size()) {
            return OUTSIDE;
        }
        List<Integer> steps = steps();
        if (steps == null) {
            return NOT;
        }
        List<Integer> dark = new ArrayList<>();
        for (int f : days) {
            int place = 0;
            int set = 0;
            for (int step : steps) {
                place += step == 64 ? 1 : step == 65 ? -1 : 0;
                set |= step < 64 ? woken(place, step, loud, f) : 0;
            }
            dark.add((1 << lamps.size()) - 1 - set);
        }
        if (what >= 2) {
            return dark.get(what - 2);
        }
        int first = NONE;
        int count = 0;
        for (int day = dark.size() - 1; day >= 0; day--) {
            if (dark.get(day) != 0) {
                first = day;
                count++;
            }
        }
        return what == 0 ? first : count;
    }

    int log(int set) {
        if (hasUnknown(set)) {
            return UNKNOWN;
        }
        if (entries.size() == 40) {
            return FULL;
        }
        entries.add(set);
        return entries.size();
    }

    int clear() {
        int were = entries.size();
        entries.clear();
        return were;
    }

    int judge() {
        Image before = image();
        int wrong = NONE;
        for (int k = 0; k < entries.size() && wrong == NONE; k++) {
            pass();
            wrong = lit(1) == entries.get(k) ? NONE : k;
        }
        become(before);
        return wrong;
    }

    // ---- draws, images

    int seed(int v) {
        if (v < 0) {
            return OUTSIDE;
        }
        int was = (int) seed;
        seed = v;
        return was;
    }

    private Image image() {
        Image i = new Image();
        for (Lamp x : lamps) {
            i.lamps.add(x.copy());
        }
        i.minute = minute;
        i.frost = frost;
        i.wind = wind;
        i.seed = seed;
        return i;
    }

    private void become(Image i) {
        lamps = new ArrayList<>();
        for (Lamp x : i.lamps) {
            lamps.add(x.copy());
        }
        minute = i.minute;
        frost = i.frost;
        wind = i.wind;
        seed = i.seed;
    }

    int keep(int i) {
        if (i != 0 && i != 1) {
            return UNKNOWN;
        }
        images[i] = image();
        return 1;
    }

    int goBack(int i) {
        if (i != 0 && i != 1) {
            return UNKNOWN;
        }
        if (images[i] == null) {
            return NOT;
        }
        become(images[i]);
        return 1;
    }
}

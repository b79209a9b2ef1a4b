import java.util.ArrayList;
import java.util.List;

/** Asks an object for all that it holds. It uses the object up: what is asked last changes it. */
final class Probe {
    private static final int NONE = LampsListen.NONE;

    private final LampsListen x;
    private final List<String> names = new ArrayList<>();
    private final List<Integer> answers = new ArrayList<>();

    private Probe(LampsListen x) {
        this.x = x;
    }

    /** The first answer that is other, told with its call; null, if there is none. */
    static String firstOther(LampsListen one, LampsListen other) {
        Probe p = new Probe(one);
        Probe q = new Probe(other);
        p.askAll();
        q.askAll();
        for (int k = 0; k < p.names.size(); k++) {
            if (!p.answers.get(k).equals(q.answers.get(k))) {
                return p.names.get(k) + " answers " + p.answers.get(k) + ", not " + q.answers.get(k);
            }
        }
        return null;
    }

    private void put(String name, int answer) {
        names.add(name);
        answers.add(answer);
    }

    private void askAll() {
        put("fault", x.fault());
        state("now");
        put("shows", x.shows());
        put("judge", x.judge());
        told();
        for (int j = NONE; j < 4; j++) {
            put("round " + j, x.round(j));
        }
        for (int i = NONE; i < 6; i++) {
            put("apart " + i, x.apart(-1, 5, 9, i));
        }
        for (int what = 0; what < 5; what++) {
            put("flat " + what, x.flat(what));
        }
        put("alone", x.alone(NONE));
        seed("now");
        afterwards();
        images();
        texts();
    }

    private void state(String when) {
        for (int what = 10; what <= 12; what++) {
            put(when + " told " + what, x.told(what));
        }
        for (int l = 0; l < 3; l++) {
            for (int what = 0; what <= 7; what++) {
                put(when + " lamp " + l + " " + what, x.lamp(l, what));
            }
        }
        put(when + " burn", x.lit(0));
        put(when + " seen", x.lit(1));
    }

    private void told() {
        for (int what = 0; what <= 9; what++) {
            put("told " + what, x.told(what));
        }
        for (int s = 0; s < 2; s++) {
            for (int what = 0; what <= 3; what++) {
                put("singer " + s + " " + what, x.singer(s, what));
            }
        }
    }

    private void seed(String when) {
        int was = x.seed(0);
        x.seed(was);
        put(when + " seed", was);
    }

    /** What comes next tells the songs, the wind, the burning; the log's entries by what is told wrong then. */
    private void afterwards() {
        for (int k = 0; k < 4; k++) {
            put("run", x.run(1));
            state("after " + k);
            put("then shows", x.shows());
            put("then judge", x.judge());
            put("log", x.log(7));
        }
        x.dark();
        x.weather(0, 0);
        x.weather(1, 0);
        for (int k = 0; k < 6; k++) {
            put("from dark", x.run(1));
            put("leaders", 100 * x.lamp(0, 7) + 10 * x.lamp(1, 7) + x.lamp(2, 7));
        }
        for (int set = 0; set < 8; set++) {
            put("signal " + set, x.signal(set));
        }
        put("forget", x.forget());
        put("clear", x.clear());
    }

    private void images() {
        for (int image = 0; image < 2; image++) {
            put("goBack " + image, x.goBack(image));
            state("image " + image);
            seed("image " + image);
        }
    }

    /** What stands in the text is told by reading it with a clause behind it. */
    private void texts() {
        Check.tell(x, " frost 7;");
        put("month", x.month());
        put("month's fault", x.fault());
        put("bytes left", x.told(6));
        put("quay", x.quay());
        put("quay's fault", x.fault());
        state("at last");
    }
}

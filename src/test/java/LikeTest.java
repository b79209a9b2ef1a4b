import java.util.ArrayList;
import java.util.List;
import java.util.Random;

/**
 * The class held against itself where the document says one thing of two calls: a lamp that is filed to a note is like
 * one that was told with it, frost is like lower notes, a log of what was seen is not wrong. No model is needed for that.
 */
public final class LikeTest {
    private static final int NONE = LampsListen.NONE;
    private static final int QUAYS = 40;
    private static final Check C = new Check("LikeTest");

    private final Random dice;
    private final List<int[]> lamps = new ArrayList<>();
    private final List<int[]> singers = new ArrayList<>();
    private final int burn;
    private final int moths;
    private final int loud;

    /** A quay that the dice tell, the same one for the same number. */
    private LikeTest(int number) {
        dice = new Random(number);
        int first = dice.nextInt(35);
        int count = 2 + dice.nextInt(5);
        for (int l = 0; l < count; l++) {
            lamps.add(new int[] {first + dice.nextInt(12), 20 + dice.nextInt(20), dice.nextInt(4), dice.nextInt(3)});
        }
        for (int s = 0; s < 3; s++) {
            int low = 10 + dice.nextInt(20);
            singers.add(new int[] {first + dice.nextInt(12), 1 + dice.nextInt(12), low, low + dice.nextInt(30)});
        }
        burn = 2 + dice.nextInt(8);
        moths = 1 + dice.nextInt(6);
        loud = 1 + dice.nextInt(8);
    }

    public static void main(String[] args) {
        for (int number = 0; number < QUAYS; number++) {
            new LikeTest(number).filedIsLikeTold();
            new LikeTest(number).frostIsLikeLowerNotes();
            new LikeTest(number).minutesOneByOne();
            new LikeTest(number).whatWasSeenIsNotWrong();
            new LikeTest(number).roundWakesAll();
            new LikeTest(number).whatSoundsWake();
            new LikeTest(number).aloneIsAlone();
            new LikeTest(number).tunedIsFiled();
            new LikeTest(number).fewestLures();
        }
        C.end();
    }

    private String text() {
        StringBuilder s = new StringBuilder();
        for (int[] lamp : lamps) {
            s.append(clause("lamp", lamp));
        }
        for (int[] singer : singers) {
            s.append(clause("singer", singer));
        }
        return s + "burn " + burn + ";moths " + moths + ";loud " + loud + ";";
    }

    private static String clause(String word, int[] numbers) {
        StringBuilder s = new StringBuilder(word);
        for (int number : numbers) {
            s.append(' ').append(number);
        }
        return s.append(';').toString();
    }

    private LampsListen made() {
        LampsListen x = Check.on(text());
        Check.night(x, song(0, 0) + song(2, 1) + song(2, 2) + song(9, 0));
        Check.month(x, "frost 0;frost 1;frost 3;frost 2;");
        return x;
    }

    /** In the middle of what the singer has. */
    private String song(int minute, int singer) {
        int[] s = singers.get(singer);
        return clause("sing", new int[] {minute, singer, (s[2] + s[3]) / 2});
    }

    private int all() {
        return (1 << lamps.size()) - 1;
    }

    // ---- two objects that have to answer alike

    private interface Asked {
        int of(LampsListen x, int k);
    }

    private void alike(String what, LampsListen x, LampsListen y, int count, Asked asked) {
        for (int k = 0; k < count; k++) {
            C.due(what + " " + k + " of " + text(), asked.of(x, k), asked.of(y, k));
        }
    }

    /** All that is asked of sounds; what is told of notes themselves is asked elsewhere. */
    private void alikeBySounds(LampsListen x, LampsListen y) {
        int[] some = dice.ints(24, 0, all() + 1).toArray();
        for (int set : some) {
            C.due("signal", x.signal(set), y.signal(set));
        }
        alike("ear", x, y, lamps.size(), (o, l) -> o.lamp(l, 4));
        alike("wakes", x, y, 64, (o, note) -> o.wakes(some[note % 24] % 50, note, 1 + note % 50));
        alike("round", x, y, 20, (o, k) -> o.round(k - 1));
        alike("lured", x, y, 12, (o, k) -> o.lured(some[k] & some[k + 1], some[k], -1, 1 + k));
        alike("apart", x, y, 10, (o, k) -> o.apart(-1, 6, 3, k - 1));
        alike("fewest", x, y, 24, (o, k) -> o.fewest(some[k] & some[k / 2], some[k], 1 + k / 2, k % 3 - 1));
        alike("who", x, y, 16, (o, k) -> o.who(some[k]));
        alike("where", x, y, 16, (o, k) -> o.where(some[k], 1 + k));
        alike("hum", x, y, 10, (o, k) -> o.hum(some[k] % 50, 15 + 3 * k));
        x.weather(1, 30);
        y.weather(1, 30);
        x.log(x.lit(1));
        y.log(y.lit(1));
        alike("judge", x, y, 1, (o, k) -> o.judge());
        alike("run", x, y, 8, (o, k) -> o.run(1 + k));
        alike("leader", x, y, lamps.size(), (o, l) -> o.lamp(l, 7));
        alike("seen", x, y, 2, LampsListen::lit);
        alike("shows", x, y, 1, (o, k) -> o.shows());
    }

    private void filedIsLikeTold() {
        LampsListen filed = made();
        for (int l = 0; l < lamps.size(); l++) {
            int[] lamp = lamps.get(l);
            int by = dice.nextInt(8);
            lamp[1] += by;
            C.due("file", filed.file(l, lamp[1]), by == 0 ? LampsListen.OUTSIDE : by);
        }
        LampsListen told = made();
        int frost = dice.nextInt(4);
        filed.weather(0, frost);
        told.weather(0, frost);
        alike("note", filed, told, lamps.size(), (o, l) -> o.lamp(l, 1));
        alike("alone", filed, told, lamps.size() + 1, (o, l) -> o.alone(l - 1));
        alike("tuned", filed, told, 12, (o, k) -> o.tuned(28 + k, 1 + k / 2, 2, k % 3 - 1));
        alike("flat", filed, told, 6, LampsListen::flat);
        alikeBySounds(filed, told);
    }

    /** Notes are 20 or more, so that by frost 9 no ear is below 0. */
    private void frostIsLikeLowerNotes() {
        LampsListen frozen = made();
        int frost = 1 + dice.nextInt(9);
        C.due("frost", frozen.weather(0, frost), 0);
        for (int[] lamp : lamps) {
            lamp[1] -= lamp[3] * frost;
            lamp[3] = 0;
        }
        alikeBySounds(frozen, made());
    }

    private void minutesOneByOne() {
        LampsListen x = made();
        LampsListen y = made();
        x.weather(1, 40);
        y.weather(1, 40);
        int set = x.run(60);
        int last = 0;
        for (int k = 0; k < 60; k++) {
            last = y.run(1);
        }
        C.due("60 minutes at once", set, last);
        alike("minute", x, y, 1, (o, k) -> o.told(10));
        alike("seed", x, y, 1, (o, k) -> o.seed(0));
        for (int what = 5; what <= 7; what++) {
            int asked = what;
            alike("lamp's " + what, x, y, lamps.size(), (o, l) -> o.lamp(l, asked));
        }
    }

    // ---- one answer by many others

    private void whatWasSeenIsNotWrong() {
        LampsListen x = made();
        x.weather(1, 45);
        x.seed(dice.nextInt(1000000));
        x.run(1 + dice.nextInt(5));
        x.keep(1);
        int[] seen = new int[40];
        for (int k = 0; k < 40; k++) {
            x.run(1);
            seen[k] = x.lit(1);
        }
        C.due("goBack", x.goBack(1), 1);
        int wrong = dice.nextInt(41);
        for (int k = 0; k < 40; k++) {
            x.log(k < wrong ? seen[k] : seen[k] ^ 1);
        }
        C.due("wrong from " + wrong + " on", x.judge(), wrong == 40 ? NONE : wrong);
    }

    /** Each hum of a round in the fewest minutes wakes one that was not woken before; at the end all were. */
    private void roundWakesAll() {
        LampsListen x = made();
        int minutes = x.round(NONE);
        int place = 0;
        int woken = 0;
        for (int j = 0; j < minutes; j++) {
            int step = x.round(j);
            if (step == 64 || step == 65) {
                place += step == 64 ? 1 : -1;
            } else {
                int before = woken;
                woken |= x.hum(place, step);
                C.holds("step " + j + " wakes a new one of " + text(), woken != before);
            }
            C.holds("all only at the last step of " + text(), (woken == all()) == (j == minutes - 1));
        }
        C.due("all of " + text(), woken, all());
        C.due("nothing behind", x.round(minutes), NONE);
    }

    /** By place and note; an object for each place, as none is used for more than 512 calls. */
    private int[][] table(int l, Asked prepare) {
        int[][] sets = new int[50][64];
        for (int place = 0; place < 50; place++) {
            LampsListen x = made();
            prepare.of(x, 0);
            for (int note = 0; note < 64; note++) {
                sets[place][note] = x.wakes(place, note, l);
            }
        }
        return sets;
    }

    private void whatSoundsWake() {
        int l = 1 + dice.nextInt(12);
        int frost = dice.nextInt(5);
        int[][] sets = table(l, (o, k) -> o.weather(0, frost));
        LampsListen x = made();
        x.weather(0, frost);
        for (int set = 0; set <= all(); set++) {
            int places = 0;
            boolean isOne = set == 0;
            boolean isOneNote = set == 0;
            for (int place = 0; place < 50; place++) {
                boolean isHere = false;
                for (int note = 0; note < 64; note++) {
                    isHere |= sets[place][note] == set;
                }
                places += isHere ? 1 : 0;
                isOne |= isHere;
            }
            for (int note = 0; note < 64; note++) {
                int reach = 0;
                for (int place = 0; place < 50; place++) {
                    reach |= (sets[place][note] & ~set) == 0 ? sets[place][note] : 0;
                }
                isOneNote |= reach == set;
            }
            C.due("where " + set + " by " + l + " of " + text(), x.where(set, l), places);
            int sounds = x.lured(0, set, -1, l);
            C.holds("one sound for " + set + " by " + l + " of " + text(), isOne == (sounds == 0 || sounds == 1));
            int notes = x.fewest(0, set, l, NONE);
            C.holds("one note for " + set + " by " + l + " of " + text(), isOneNote == (notes == 0 || notes == 1));
            C.due("who " + set + " of " + text(), x.who(set), whoByWakes(set, frost));
        }
    }

    private int whoByWakes(int set, int frost) {
        int found = 0;
        for (int s = 0; s < singers.size(); s++) {
            LampsListen x = made();
            x.weather(0, frost);
            for (int note = x.singer(s, 2); note <= x.singer(s, 3); note++) {
                found |= x.wakes(x.singer(s, 0), note, x.singer(s, 1)) == set ? 1 << s : 0;
            }
        }
        return found;
    }

    private void aloneIsAlone() {
        int frost = dice.nextInt(4);
        LampsListen x = made();
        x.weather(0, frost);
        int sum = x.alone(NONE);
        int[] notes = new int[lamps.size()];
        int filed = 0;
        for (int l = 0; l < notes.length; l++) {
            notes[l] = x.alone(l);
            filed += notes[l] - lamps.get(l)[1];
        }
        if (sum == NONE) {
            return;
        }
        C.due("how much in all of " + text(), sum, filed);
        int[][] sets = table(loud, (o, k) -> fileAll(o, notes) + o.weather(0, frost));
        for (int[] ofPlace : sets) {
            for (int set : ofPlace) {
                C.holds("no two of " + text(), Integer.bitCount(set) <= 1);
            }
        }
        fileAll(x, notes);
        C.due("nothing is left to file of " + text(), x.alone(NONE), 0);
    }

    private static int fileAll(LampsListen x, int[] notes) {
        int sum = 0;
        for (int l = 0; l < notes.length; l++) {
            sum += notes[l] > x.lamp(l, 1) ? x.file(l, notes[l]) : 0;
        }
        return sum;
    }

    private void tunedIsFiled() {
        LampsListen x = made();
        int n = lamps.size();
        int u = 24 + dice.nextInt(14);
        int step = 1 + dice.nextInt(4);
        int sum = x.tuned(u, step, n, NONE);
        if (sum < 0) {
            return;
        }
        int[] notes = new int[n];
        for (int j = 0; j < n; j++) {
            notes[x.tuned(u, step, n, j)] = u + j * step;
        }
        C.due("filed as tuned, " + text(), fileAll(x, notes), sum);
        for (int l = 0; l < n; l++) {
            C.due("its note, " + text(), x.lamp(l, 1), notes[l]);
        }
        C.due("nothing is left to file, " + text(), x.tuned(u, step, n, NONE), 0);
    }

    /** The whistles that are told do; with any one of them left out they don't. */
    private void fewestLures() {
        int l = 1 + dice.nextInt(8);
        LampsListen x = made();
        for (int to = 1; to <= all() && to < 32; to++) {
            int count = x.fewest(0, to, l, NONE);
            long notes = 0;
            int before = NONE;
            for (int i = 0; i < count; i++) {
                int note = x.fewest(0, to, l, i);
                C.holds("rising", note > before);
                notes |= 1L << note;
                before = note;
            }
            C.holds("they do for " + to + " of " + text(), (x.lured(0, to, notes, l) == NONE) == (count == NONE));
            for (int note = 0; note < 64; note++) {
                if ((notes >>> note & 1) != 0) {
                    C.due("all are needed for " + to + " of " + text(), x.lured(0, to, notes & ~(1L << note), l), NONE);
                }
            }
        }
    }
}

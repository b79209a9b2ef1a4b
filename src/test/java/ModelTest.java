import java.util.Random;

/** Runs of calls, the same ones each time, that the class and the model have to answer alike. */
public final class ModelTest {
    private static final int RUNS = 160;
    private static final int CALLS = 260;

    private final Random dice;
    private final LampsListen x = new LampsListen();
    private final Model m = new Model();
    private final Check check;
    private int lamps;

    private ModelTest(Check check, int run) {
        this.check = check;
        dice = new Random(run);
    }

    public static void main(String[] args) {
        Check check = new Check("ModelTest");
        int runs = args.length > 0 ? Integer.parseInt(args[0]) : RUNS;
        for (int run = 0; run < runs && check.wrong() < 20; run++) {
            new ModelTest(check, run).go(run);
        }
        check.end();
    }

    private void go(int run) {
        tellQuay();
        for (int k = 0; k < CALLS; k++) {
            ask(run, dice.nextInt(36));
        }
    }

    private int upTo(int n) {
        return dice.nextInt(n + 1);
    }

    /** Mostly within bounds, now and then just outside of them or far out. */
    private int about(int low, int high) {
        switch (dice.nextInt(30)) {
            case 0: return low - 1;
            case 1: return high + 1;
            case 2: return dice.nextInt();
            default: return low + upTo(high - low);
        }
    }

    private int set() {
        int all = (1 << lamps) - 1;
        switch (dice.nextInt(12)) {
            case 0: return dice.nextInt();
            case 1: return all + 1;
            case 2: return all;
            case 3: return 0;
            case 4: return x.lit(1);
            default: return dice.nextInt() & all;
        }
    }

    private int largerSet(int from) {
        return dice.nextInt(4) == 0 ? set() : from | set();
    }

    /** A set that a sound wakes, so that asking for it does not answer nothing each time. */
    private int soundSet() {
        int set = x.wakes(upTo(49), upTo(63), 1 + upTo(49));
        return dice.nextInt(3) == 0 ? set() : set;
    }

    private long notes() {
        return dice.nextInt(3) == 0 ? -1L : dice.nextLong();
    }

    private void tell(String text) {
        Check.tell(x, text);
        for (int k = 0; k < text.length(); k++) {
            m.feed(1, text.charAt(k));
        }
    }

    private void tellQuay() {
        StringBuilder s = new StringBuilder();
        boolean isNarrow = dice.nextBoolean();
        boolean isNear = dice.nextBoolean();
        int count = dice.nextInt(4) == 0 ? 10 : upTo(7);
        int from = upTo(40);
        for (int l = 0; l < count; l++) {
            int note = isNarrow ? Math.min(63, from + upTo(12)) : upTo(63);
            int place = isNear ? Math.min(49, from + upTo(9)) : upTo(49);
            s.append("lamp ").append(place).append(' ').append(note).append(' ').append(upTo(isNarrow ? 3 : 9))
                .append(' ').append(upTo(dice.nextBoolean() ? 1 : 5)).append(';');
        }
        for (int k = upTo(4); k > 0; k--) {
            int low = upTo(63);
            s.append("singer ").append(upTo(49)).append(' ').append(1 + upTo(49)).append(' ').append(low).append(' ')
                .append(low + upTo(63 - low)).append(';');
        }
        String[] once = {"burn", "moths", "loud"};
        for (String word : once) {
            if (dice.nextInt(3) > 0) {
                s.append(word).append(' ').append(1 + upTo(dice.nextBoolean() ? 9 : 49)).append(';');
            }
        }
        tell(s.toString());
        lamps = m.quay();
        check.due("quay() of " + s, x.quay(), lamps);
        lamps = x.told(0);
    }

    private void tellNight() {
        StringBuilder s = new StringBuilder();
        int minute = 0;
        for (int k = upTo(12); k > 0; k--) {
            minute += upTo(6);
            int singer = upTo(Math.max(0, x.told(1) - 1));
            int low = Math.max(0, x.singer(singer, 2));
            int high = Math.max(low, x.singer(singer, 3));
            s.append("sing ").append(minute).append(' ').append(singer).append(' ')
                .append(low + upTo(high - low)).append(';');
        }
        tell(s.toString());
        check.due("night() of " + s, x.night(), m.night());
    }

    private void tellMonth() {
        StringBuilder s = new StringBuilder();
        for (int k = upTo(26); k > 0; k--) {
            s.append("frost ").append(dice.nextInt(4) == 0 ? upTo(9) : upTo(1)).append(';');
        }
        tell(s.toString());
        check.due("month() of " + s, x.month(), m.month());
        if (x.told(6) > 0) {
            check.due("night() of what is too long", x.night(), m.night());
        }
    }

    private void ask(int run, int which) {
        int a = 0;
        int b = 0;
        int c = 0;
        String told = "run " + run + " call " + which + " ";
        switch (which) {
            case 0: if (dice.nextInt(20) == 0) { tellQuay(); } break;
            case 1: tellNight(); break;
            case 2: if (dice.nextInt(3) == 0) { tellMonth(); } break;
            case 3: check.due(told + "fault()", x.fault(), m.fault()); break;
            case 4: a = about(0, 12); check.due(told + "told " + a, x.told(a), m.told(a)); break;
            case 5: case 6: a = about(0, Math.max(0, lamps - 1)); b = about(0, 7);
                check.due(told + "lamp " + a + " " + b, x.lamp(a, b), m.lamp(a, b)); break;
            case 7: a = about(0, 3); b = about(0, 3);
                check.due(told + "singer " + a + " " + b, x.singer(a, b), m.singer(a, b)); break;
            case 8: a = about(0, 1); b = about(0, dice.nextInt(4) == 0 ? 50 : 2);
                check.due(told + "weather " + a + " " + b, x.weather(a, b), m.weather(a, b)); break;
            case 9: a = about(0, 49); b = about(0, 63); c = about(1, 50);
                check.due(told + "wakes " + a + " " + b + " " + c, x.wakes(a, b, c), m.wakes(a, b, c)); break;
            case 10: case 11: a = about(0, 49); b = about(0, 63);
                check.due(told + "hum " + a + " " + b, x.hum(a, b), m.hum(a, b)); break;
            case 12: case 13: a = dice.nextInt(8) == 0 ? about(1, 300) : about(1, 6);
                check.due(told + "run " + a, x.run(a), m.run(a)); break;
            case 14: a = about(0, 1); check.due(told + "lit " + a, x.lit(a), m.lit(a)); break;
            case 15: if (dice.nextInt(4) == 0) { check.due(told + "dark()", x.dark(), m.dark()); } break;
            case 16: a = about(0, Math.max(0, lamps - 1)); check.due(told + "sweep " + a, x.sweep(a), m.sweep(a)); break;
            case 17: a = about(-1, 40); check.due(told + "round " + a, x.round(a), m.round(a)); break;
            case 18: check.due(told + "round -1", x.round(-1), m.round(-1)); break;
            case 19: a = set(); check.due(told + "signal " + a, x.signal(a), m.signal(a)); break;
            case 20: if (dice.nextInt(6) == 0) { check.due(told + "forget()", x.forget(), m.forget()); } break;
            default: askMore(told, which); break;
        }
    }

    private void askMore(String told, int which) {
        int a = 0;
        int b = 0;
        int c = 0;
        int d = 0;
        long n = notes();
        switch (which) {
            case 21: check.due(told + "shows()", x.shows(), m.shows()); break;
            case 22: a = soundSet(); b = largerSet(a); c = about(1, dice.nextBoolean() ? 50 : 4);
                check.due(told + "lured " + a + " " + b + " " + n + " " + c, x.lured(a, b, n, c), m.lured(a, b, n, c)); break;
            case 23: a = about(1, dice.nextBoolean() ? 50 : 4); b = about(1, 9); c = about(-1, 6);
                check.due(told + "apart " + n + " " + a + " " + b + " " + c, x.apart(n, a, b, c), m.apart(n, a, b, c)); break;
            case 24: a = dice.nextBoolean() ? 0 : set(); b = largerSet(a); c = about(1, dice.nextBoolean() ? 50 : 4); d = about(-1, 3);
                check.due(told + "fewest " + a + " " + b + " " + c + " " + d, x.fewest(a, b, c, d), m.fewest(a, b, c, d)); break;
            case 25: a = soundSet(); check.due(told + "who " + a, x.who(a), m.who(a)); break;
            case 26: a = soundSet(); b = about(1, 50); check.due(told + "where " + a + " " + b, x.where(a, b), m.where(a, b)); break;
            case 27: a = about(0, Math.max(0, lamps - 1)); b = about(0, 63);
                if (dice.nextInt(4) == 0) { check.due(told + "file " + a + " " + b, x.file(a, b), m.file(a, b)); } break;
            case 28: a = about(-1, lamps - 1); check.due(told + "alone " + a, x.alone(a), m.alone(a)); break;
            case 29: a = about(0, 63); b = about(1, 9); c = about(1, Math.max(1, Math.min(lamps, 7))); d = about(-1, 6);
                check.due(told + "tuned " + a + " " + b + " " + c + " " + d, x.tuned(a, b, c, d), m.tuned(a, b, c, d)); break;
            case 30: a = about(0, 1 + x.told(3)); check.due(told + "flat " + a, x.flat(a), m.flat(a)); break;
            case 31: a = dice.nextInt(3) == 0 ? set() : x.lit(1); check.due(told + "log " + a, x.log(a), m.log(a)); break;
            case 32: check.due(told + "judge()", x.judge(), m.judge());
                if (dice.nextInt(4) == 0) { check.due(told + "clear()", x.clear(), m.clear()); } break;
            case 33: a = about(0, Integer.MAX_VALUE - 1); check.due(told + "seed " + a, x.seed(a), m.seed(a)); break;
            case 34: a = about(0, 1); check.due(told + "keep " + a, x.keep(a), m.keep(a)); break;
            default: a = about(0, 1); check.due(told + "goBack " + a, x.goBack(a), m.goBack(a)); break;
        }
    }
}

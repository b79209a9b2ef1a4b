/**
 * What is refused changes nothing, nor does what only asks. Two objects are made alike; one is asked the call; then both
 * have to answer all that Probe asks alike. Of several refusals the first in the terms' order is due.
 */
public final class RefusedTest {
    private static final int NONE = LampsListen.NONE, UNKNOWN = LampsListen.UNKNOWN, OUTSIDE = LampsListen.OUTSIDE;
    private static final int NOT = LampsListen.NOT, FULL = LampsListen.FULL;
    private static final int LEAST = Integer.MIN_VALUE, MOST = Integer.MAX_VALUE;

    private static final Check C = new Check("RefusedTest");

    private interface Call {
        int on(LampsListen x);
    }

    private interface Maker {
        LampsListen make();
    }

    public static void main(String[] args) {
        probeSees();
        refusedTexts();
        refusedMinutes();
        refusedSignals();
        refusedFiling();
        refusedMonths();
        refusedImages();
        refusedWhenFull();
        refusedWithoutRound();
        refusedOfNew();
        faultyTexts();
        asksAlone();
        C.end();
    }

    // ---- objects

    /** Three lamps, one dim, one burning, one out, with something of all that there is. */
    private static LampsListen ordinary() {
        LampsListen x = Check.on("lamp 0 10 1 1;lamp 3 12 1 0;lamp 4 40 0 2;burn 6;moths 3;loud 6;singer 0 9 8 12;singer 4 1 40 41;");
        Check.night(x, "sing 1 0 9;sing 2 0 12;sing 5 1 40;sing 7 0 11;");
        Check.month(x, "frost 0;frost 1;frost 5;");
        x.weather(0, 1);
        x.signal(1);
        x.signal(3);
        x.signal(2);
        x.log(3);
        x.log(2);
        x.seed(4711);
        x.hum(0, 38);
        x.run(2);
        x.keep(1);
        x.weather(1, 4);
        x.run(3);
        x.file(2, 41);
        x.hum(3, 12);
        Check.night(x, "sing 5 0 9;sing 6 1 41;sing 7 0 12;?");
        Check.tell(x, "frost 2;");
        return x;
    }

    private static LampsListen full() {
        LampsListen x = Check.on("lamp 0 10 1 1;lamp 3 12 1 0;lamp 4 40 0 2;lamp 4 40 0 2;");
        x.hum(0, 11);
        for (int set = 0; set < 8; set++) {
            x.signal(set + 1);
        }
        for (int k = 0; k < 40; k++) {
            x.log(k < 20 ? 3 : 0);
        }
        Check.month(x, "   ?");
        Check.tell(x, "frost 2;" + " ".repeat(392));
        return x;
    }

    private static LampsListen withoutRound() {
        LampsListen x = Check.on("lamp 0 3 0 1;lamp 0 9 0 0;lamp 0 9 0 0;");
        Check.month(x, "frost 0;frost 1;frost 3;");
        x.weather(0, 4);
        x.hum(0, 9);
        return x;
    }

    private static void refused(Maker maker, String call, Call asked, int due) {
        LampsListen x = maker.make();
        C.due(call, asked.on(x), due);
        String other = Probe.firstOther(x, maker.make());
        C.holds("behind " + call + ": " + other, other == null);
    }

    private static void refused(String call, Call asked, int due) {
        refused(RefusedTest::ordinary, call, asked, due);
    }

    /** A probe that saw no change would let all pass. */
    private static void probeSees() {
        C.holds("the same is the same", Probe.firstOther(ordinary(), ordinary()) == null);
        C.holds("the same is the same", Probe.firstOther(full(), full()) == null);
        C.holds("the same is the same", Probe.firstOther(withoutRound(), withoutRound()) == null);
        seen("feed", x -> x.feed(1, '?'));
        seen("a blank", x -> x.feed(1, ' '));
        seen("quay", LampsListen::quay);
        seen("night", x -> Check.night(x, "sing 5 0 9;"));
        seen("month", LampsListen::month);
        seen("frost", x -> x.weather(0, 2));
        seen("wind", x -> x.weather(1, 5));
        seen("hum", x -> x.hum(4, 39));
        seen("run", x -> x.run(1));
        seen("dark", LampsListen::dark);
        seen("sweep", x -> x.sweep(0));
        seen("signal", x -> x.signal(6));
        seen("forget", LampsListen::forget);
        seen("file", x -> x.file(1, 13));
        seen("log", x -> x.log(0));
        seen("clear", LampsListen::clear);
        seen("seed", x -> x.seed(5));
        seen("keep 0", x -> x.keep(0));
        seen("keep 1", x -> x.keep(1));
        seen("goBack", x -> x.goBack(1));
    }

    private static void seen(String call, Call change) {
        LampsListen x = ordinary();
        change.on(x);
        C.holds("the probe sees " + call, Probe.firstOther(x, ordinary()) != null);
    }

    // ---- refused calls

    private static void refusedTexts() {
        int[] wrong = {0, -1, 9, LEAST, MOST};
        for (int n : wrong) {
            refused("feed " + n, x -> x.feed(n, 0x3b3b3b3b), OUTSIDE);
        }
        int[] whats = {-1, 13, LEAST, MOST};
        for (int what : whats) {
            refused("told " + what, x -> x.told(what), OUTSIDE);
        }
        int[] lamps = {-1, 3, 10, LEAST, MOST};
        for (int l : lamps) {
            refused("lamp " + l, x -> x.lamp(l, 0), UNKNOWN);
            refused("lamp " + l + " 8", x -> x.lamp(l, 8), UNKNOWN);
            refused("sweep " + l, x -> x.sweep(l), UNKNOWN);
            refused("file " + l, x -> x.file(l, 50), UNKNOWN);
            refused("file " + l + " 64", x -> x.file(l, 64), UNKNOWN);
            refused("singer " + l, x -> x.singer(l, 0), UNKNOWN);
            refused("singer " + l + " 4", x -> x.singer(l, 4), UNKNOWN);
        }
        refused("singer 2", x -> x.singer(2, 0), UNKNOWN);
        int[] parts = {-1, 8, LEAST, MOST};
        for (int what : parts) {
            refused("lamp 0 " + what, x -> x.lamp(0, what), OUTSIDE);
            refused("singer 0 " + what, x -> x.singer(0, what), OUTSIDE);
        }
        refused("singer 0 4", x -> x.singer(0, 4), OUTSIDE);
    }

    private static void refusedMinutes() {
        int[] frosts = {-1, 10, LEAST, MOST};
        for (int v : frosts) {
            refused("frost " + v, x -> x.weather(0, v), OUTSIDE);
        }
        int[] winds = {-1, 51, LEAST, MOST};
        for (int v : winds) {
            refused("wind " + v, x -> x.weather(1, v), OUTSIDE);
            refused("wakes loud " + v, x -> x.wakes(0, 10, v), OUTSIDE);
        }
        int[] whats = {-1, 2, LEAST, MOST};
        for (int what : whats) {
            refused("weather " + what, x -> x.weather(what, 3), OUTSIDE);
            refused("lit " + what, x -> x.lit(what), OUTSIDE);
        }
        int[] places = {-1, 50, LEAST, MOST};
        for (int place : places) {
            refused("wakes at " + place, x -> x.wakes(place, 10, 5), OUTSIDE);
            refused("hum at " + place, x -> x.hum(place, 10), OUTSIDE);
        }
        int[] notes = {-1, 64, LEAST, MOST};
        for (int note : notes) {
            refused("wakes by " + note, x -> x.wakes(0, note, 5), OUTSIDE);
            refused("hum of " + note, x -> x.hum(0, note), OUTSIDE);
        }
        refused("wakes loud 0", x -> x.wakes(0, 10, 0), OUTSIDE);
        int[] runs = {0, -1, 301, LEAST, MOST};
        for (int n : runs) {
            refused("run " + n, x -> x.run(n), OUTSIDE);
        }
    }

    private static void refusedSignals() {
        int[] sets = {8, 1024, -1, LEAST, MOST};
        for (int set : sets) {
            refused("signal " + set, x -> x.signal(set), UNKNOWN);
            refused("who " + set, x -> x.who(set), UNKNOWN);
            refused("where " + set, x -> x.where(set, 5), UNKNOWN);
            refused("where " + set + " 0", x -> x.where(set, 0), UNKNOWN);
            refused("lured from " + set, x -> x.lured(set, 1, -1, 51), UNKNOWN);
            refused("lured to " + set, x -> x.lured(1, set, -1, 0), UNKNOWN);
            refused("fewest from " + set, x -> x.fewest(set, 1, 51, NONE), UNKNOWN);
            refused("fewest to " + set, x -> x.fewest(1, set, 0, NONE), UNKNOWN);
            refused("log " + set, x -> x.log(set), UNKNOWN);
        }
        int[] louds = {0, -1, 51, LEAST, MOST};
        for (int l : louds) {
            refused("lured by " + l, x -> x.lured(0, 1, -1, l), OUTSIDE);
            refused("apart by " + l, x -> x.apart(-1, l, 5, NONE), OUTSIDE);
            refused("fewest by " + l, x -> x.fewest(0, 1, l, NONE), OUTSIDE);
            refused("where by " + l, x -> x.where(1, l), OUTSIDE);
        }
        int[] ds = {0, -1, 10, LEAST, MOST};
        for (int d : ds) {
            refused("apart, d " + d, x -> x.apart(-1, 5, d, 0), OUTSIDE);
            refused("apart, both out, d " + d, x -> x.apart(-1, 0, d, 0), OUTSIDE);
        }
        int[] told = {1, 3, 2};
        for (int set : told) {
            refused("signal again " + set, x -> x.signal(set), NOT);
        }
    }

    private static void refusedFiling() {
        int[] notes = {10, 9, 0, -1, 64, LEAST, MOST};
        for (int note : notes) {
            refused("file to " + note, x -> x.file(0, note), OUTSIDE);
        }
        refused("file to what it is filed to", x -> x.file(2, 41), OUTSIDE);
        refused("file to what it was", x -> x.file(2, 40), OUTSIDE);
        int[] lamps = {-2, 3, 10, LEAST, MOST};
        for (int l : lamps) {
            refused("alone " + l, x -> x.alone(l), UNKNOWN);
        }
        int[] us = {-1, 64, LEAST, MOST};
        for (int u : us) {
            refused("tuned u " + u, x -> x.tuned(u, 1, 1, NONE), OUTSIDE);
            refused("tuned u and n " + u, x -> x.tuned(u, 1, 4, NONE), OUTSIDE);
        }
        int[] steps = {0, -1, 10, LEAST, MOST};
        for (int step : steps) {
            refused("tuned step " + step, x -> x.tuned(0, step, 1, NONE), OUTSIDE);
            refused("tuned step, too high " + step, x -> x.tuned(63, step, 2, NONE), OUTSIDE);
        }
        int[] ns = {0, -1, 11, LEAST, MOST};
        for (int n : ns) {
            refused("tuned n " + n, x -> x.tuned(0, 1, n, 0), OUTSIDE);
        }
        refused("tuned to more than lamps", x -> x.tuned(0, 1, 4, NONE), NOT);
        refused("tuned to 64", x -> x.tuned(63, 1, 2, NONE), NOT);
        refused("tuned to 64 by 9", x -> x.tuned(46, 9, 3, 0), NOT);
        refused("tuned to 64 by more than lamps", x -> x.tuned(37, 9, 4, 0), NOT);
    }

    private static void refusedMonths() {
        int[] whats = {-1, 5, LEAST, MOST};
        for (int what : whats) {
            refused("flat " + what, x -> x.flat(what), OUTSIDE);
        }
        int[] seeds = {-1, -2, LEAST};
        for (int v : seeds) {
            refused("seed " + v, x -> x.seed(v), OUTSIDE);
        }
    }

    private static void refusedImages() {
        int[] images = {-1, 2, LEAST, MOST};
        for (int i : images) {
            refused("keep " + i, x -> x.keep(i), UNKNOWN);
            refused("goBack " + i, x -> x.goBack(i), UNKNOWN);
        }
        refused("goBack 0", x -> x.goBack(0), NOT);
    }

    private static void refusedWhenFull() {
        for (int n = 1; n <= 8; n++) {
            int bytes = n;
            refused(RefusedTest::full, "feed " + n, x -> x.feed(bytes, 0), FULL);
        }
        refused(RefusedTest::full, "feed 0, full", x -> x.feed(0, 0), OUTSIDE);
        refused(RefusedTest::full, "feed 9, full", x -> x.feed(9, 0), OUTSIDE);
        refused(RefusedTest::full, "month of 400", LampsListen::month, NOT);
        refused(RefusedTest::full, "a ninth signal", x -> x.signal(0), FULL);
        refused(RefusedTest::full, "a ninth signal", x -> x.signal(15), FULL);
        refused(RefusedTest::full, "a ninth that is one", x -> x.signal(8), NOT);
        refused(RefusedTest::full, "a ninth that is unknown", x -> x.signal(16), UNKNOWN);
        refused(RefusedTest::full, "a 41st entry", x -> x.log(0), FULL);
        refused(RefusedTest::full, "a 41st that is unknown", x -> x.log(16), UNKNOWN);
    }

    private static void refusedWithoutRound() {
        for (int what = 0; what <= 4; what++) {
            int asked = what;
            refused(RefusedTest::withoutRound, "flat " + what + " with no round", x -> x.flat(asked), NOT);
        }
        refused(RefusedTest::withoutRound, "flat 5 with no round", x -> x.flat(5), OUTSIDE);
        refused(RefusedTest::withoutRound, "flat -1 with no round", x -> x.flat(-1), OUTSIDE);
    }

    private static void refusedOfNew() {
        refused(LampsListen::new, "lamp 0", x -> x.lamp(0, 0), UNKNOWN);
        refused(LampsListen::new, "singer 0", x -> x.singer(0, 0), UNKNOWN);
        refused(LampsListen::new, "sweep 0", x -> x.sweep(0), UNKNOWN);
        refused(LampsListen::new, "file 0", x -> x.file(0, 1), UNKNOWN);
        refused(LampsListen::new, "alone 0", x -> x.alone(0), UNKNOWN);
        refused(LampsListen::new, "signal 1", x -> x.signal(1), UNKNOWN);
        refused(LampsListen::new, "log 1", x -> x.log(1), UNKNOWN);
        refused(LampsListen::new, "tuned", x -> x.tuned(0, 1, 1, NONE), NOT);
        refused(LampsListen::new, "goBack 0", x -> x.goBack(0), NOT);
        refused(LampsListen::new, "goBack 1", x -> x.goBack(1), NOT);
        refused(LampsListen::new, "flat 2", x -> x.flat(2), OUTSIDE);
    }

    // ---- texts with a fault, calls that only ask

    private interface Texts {
        int tell(LampsListen x, String text);
    }

    /** With a fault all is as it was, but for the text, which is empty, and the fault's place. */
    private static void faulty(String text, Texts texts, Texts others, int due, int place) {
        LampsListen x = ordinary();
        LampsListen y = ordinary();
        x.night();
        y.night();
        C.due("'" + text + "'", texts.tell(x, text), due);
        C.due("fault of '" + text + "'", x.fault(), place);
        C.due("no text behind '" + text + "'", x.told(6), 0);
        // By a text of another kind the other one gets the same fault's place.
        others.tell(y, " ".repeat(place) + "?");
        String other = Probe.firstOther(x, y);
        C.holds("behind '" + text + "': " + other, other == null);
    }

    private static void faultyTexts() {
        faulty("?", Check::quay, Check::night, -11, 0);
        faulty("lamp 9 9 9 5;singer 1 1 1 1;burn 1;moths 1;loud 1;lamp", Check::quay, Check::night, -11, 54);
        faulty("lamp 9 9 9 5;singer 1 1 1 1;burn 1;moths 1;loud 51;", Check::quay, Check::night, -12, 48);
        faulty("burn 1;moths 1;loud 1;burn 1;", Check::quay, Check::night, -13, 22);
        faulty("lamp1 1 1 1;".repeat(11), Check::quay, Check::night, -13, 120);
        faulty("?", Check::night, Check::quay, -11, 0);
        faulty("sing 5 1 41;sing 6 1 41", Check::night, Check::quay, -11, 23);
        faulty("sing 5 1 41;sing 6 1 42;", Check::night, Check::quay, -12, 21);
        faulty("sing5 1 41;".repeat(30) + "sing", Check::night, Check::quay, -13, 330);
        faulty("sing 5 1 41;sing 4 1 41;", Check::night, Check::quay, -14, 17);
        faulty("?", Check::month, Check::quay, -11, 0);
        faulty("frost 9;frost 8;frost", Check::month, Check::quay, -11, 21);
        faulty("frost 9;frost 8;frost 10;", Check::month, Check::quay, -12, 22);
    }

    private static void asks(String call, Call asked) {
        LampsListen x = ordinary();
        asked.on(x);
        String other = Probe.firstOther(x, ordinary());
        C.holds("behind asking " + call + ": " + other, other == null);
    }

    private static void asksAlone() {
        asks("fault", LampsListen::fault);
        asks("told", x -> x.told(6));
        asks("lamp", x -> x.lamp(0, 5));
        asks("singer", x -> x.singer(0, 0));
        asks("wakes", x -> x.wakes(0, 10, 50));
        asks("a hum that wakes none", x -> x.hum(49, 63));
        asks("lit", x -> x.lit(1));
        asks("round", x -> x.round(0));
        asks("shows", LampsListen::shows);
        asks("lured", x -> x.lured(0, 7, -1, 50));
        asks("apart", x -> x.apart(-1, 50, 9, 0));
        asks("fewest", x -> x.fewest(0, 7, 50, 0));
        asks("who", x -> x.who(1));
        asks("where", x -> x.where(1, 50));
        asks("alone", x -> x.alone(0));
        asks("tuned", x -> x.tuned(50, 2, 3, 0));
        asks("flat", x -> x.flat(1));
        asks("flat's day", x -> x.flat(4));
        asks("judge", LampsListen::judge);
    }
}

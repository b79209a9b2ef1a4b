/** Part 4 of the terms, promises 29 to 35: every boundary that a sentence of the document names, from each side. */
public final class EdgesMonthsTest {
    private static final int NONE = LampsListen.NONE, HUMMER = LampsListen.HUMMER, UNKNOWN = LampsListen.UNKNOWN;
    private static final int OUTSIDE = LampsListen.OUTSIDE, NOT = LampsListen.NOT, FULL = LampsListen.FULL;
    private static final int[] FAR = {Integer.MIN_VALUE, Integer.MIN_VALUE + 1, -2, Integer.MAX_VALUE - 1, Integer.MAX_VALUE};

    private static final Check C = new Check("EdgesMonthsTest");

    public static void main(String[] args) {
        flatBounds();
        flatWithoutMonth();
        flatWithoutRound();
        flatWidths();
        flatDays();
        flatStepsOfNow();
        logBounds();
        clearAll();
        judgeEmpty();
        judgeFirstAndLast();
        judgeFromNow();
        judgeChangesNothing();
        seedBounds();
        imageNumbers();
        imageNotKept();
        imageKeepsEach();
        imageLeaves();
        imageAgain();
        quayAndImages();
        C.end();
    }

    // ---- months

    private static void flatBounds() {
        LampsListen x = Check.on("lamp 0 10 0 1;");
        Check.month(x, "frost 0;frost 1;frost 2;");
        C.due("what -1", x.flat(-1), OUTSIDE);
        C.due("what 0", x.flat(0), 1);
        C.due("what 1", x.flat(1), 2);
        C.due("day 0", x.flat(2), 0);
        C.due("day 2", x.flat(4), 1);
        C.due("day 3", x.flat(5), OUTSIDE);
        for (int far : FAR) {
            C.due("what " + far, x.flat(far), OUTSIDE);
        }
        LampsListen y = Check.on("lamp 0 10 0 1;");
        Check.month(y, "frost0;".repeat(27) + "frost1;");
        C.due("the last of 28 days", y.flat(0), 27);
        C.due("one day", y.flat(1), 1);
        C.due("day 26", y.flat(28), 0);
        C.due("day 27", y.flat(29), 1);
        C.due("day 28", y.flat(30), OUTSIDE);
        C.due("day 29", y.flat(31), OUTSIDE);
    }

    private static void flatWithoutMonth() {
        LampsListen x = Check.on("lamp 0 10 0 1;");
        C.due("no day", x.flat(0), NONE);
        C.due("no days", x.flat(1), 0);
        C.due("day 0", x.flat(2), OUTSIDE);
        Check.month(x, "frost 1;");
        C.due("day 0 then", x.flat(2), 1);
        Check.month(x, "   ");
        C.due("no day 0 again", x.flat(2), OUTSIDE);
        LampsListen y = new LampsListen();
        Check.month(y, "frost 9;");
        C.due("no lamps: none stays dark", y.flat(0), NONE);
        C.due("no lamps", y.flat(1), 0);
        C.due("no lamps", y.flat(2), 0);
    }

    private static void flatWithoutRound() {
        LampsListen x = Check.on("lamp 0 3 0 1;");
        Check.month(x, "frost 0;");
        x.weather(0, 3);
        C.due("ear 0: there is a round", x.flat(0), 0);
        x.weather(0, 4);
        C.due("ear -1: there is none", x.flat(0), NOT);
        C.due("none", x.flat(1), NOT);
        C.due("none", x.flat(2), NOT);
        C.due("OUTSIDE goes before NOT", x.flat(3), OUTSIDE);
        C.due("OUTSIDE goes before NOT", x.flat(-1), OUTSIDE);
        x.file(0, 4);
        C.due("filed: there is a round", x.flat(0), 0);
    }

    /** The least note is hummed, which is the width below: it is heard until the ear is the width below that. */
    private static void flatWidths() {
        for (int width = 0; width <= 4; width++) {
            LampsListen x = Check.on("lamp 0 30 " + width + " 1;");
            Check.month(x, "frost " + 2 * width + ";frost " + (2 * width + 1) + ";");
            C.due("twice the width " + width, x.flat(2), 0);
            C.due("one more than twice " + width, x.flat(3), 1);
            C.due("the first such day", x.flat(0), 1);
            C.due("one day", x.flat(1), 1);
        }
    }

    private static void flatDays() {
        LampsListen x = Check.on("lamp 0 10 0 1;lamp 0 20 0 0;lamp 9 30 1 2;");
        Check.month(x, "frost 0;frost 0;");
        C.due("no such day", x.flat(0), NONE);
        C.due("none", x.flat(1), 0);
        Check.month(x, "frost 1;frost 2;");
        C.due("day 0", x.flat(0), 0);
        C.due("both", x.flat(1), 2);
        C.due("lamp 0 alone", x.flat(2), 1);
        C.due("0 and 2", x.flat(3), 5);
        C.due("frost stays", x.told(11), 0);
        C.due("nothing burns", x.lit(0), 0);
        C.due("no minute goes by", x.told(10), 0);
        LampsListen all = Check.on("lamp 0 10 0 1;".repeat(10));
        Check.month(all, "frost 1;");
        C.due("all ten", all.flat(2), 1023);
    }

    /** A hum meant for one lamp may wake another one by another day's frost; so may one from another place. */
    private static void flatStepsOfNow() {
        LampsListen x = Check.on("lamp 0 10 0 0;lamp 0 11 0 1;");
        Check.month(x, "frost 0;frost 1;frost 2;");
        C.due("by frost 0: 10, then 11", x.round(1), 11);
        C.due("by frost 1 both hear 10", x.flat(3), 0);
        C.due("by frost 2 one hears none", x.flat(4), 2);
        x.weather(0, 1);
        C.due("10 alone", x.round(NONE), 1);
        C.due("by frost 0 one hears none", x.flat(2), 2);
        C.due("the first", x.flat(0), 0);
        C.due("two days", x.flat(1), 2);
        // Lamps as filed, by the round and by the days.
        LampsListen filed = Check.on("lamp 0 10 0 1;lamp 0 12 0 0;");
        Check.month(filed, "frost 0;frost 1;frost 2;");
        C.due("as told: 10, 12", filed.round(NONE), 2);
        C.due("lamp 0 is dark", filed.flat(4), 1);
        filed.file(0, 14);
        C.due("as filed: 12, 14", filed.round(1), 14);
        C.due("none is dark", filed.flat(2), 0);
        C.due("lamp 0 is dark", filed.flat(3), 1);
        C.due("12 wakes both", filed.flat(4), 0);
        C.due("one day", filed.flat(1), 1);
        // Steps go on before they are hummed: from place 0 neither is heard.
        LampsListen y = Check.on("lamp 5 10 0 1;lamp 6 12 0 0;");
        Check.month(y, "frost 0;frost 1;");
        C.due("two places on", y.round(NONE), 4);
        C.due("none is dark", y.flat(2), 0);
        C.due("lamp 0", y.flat(3), 1);
        // They begin at place 0, and are as loud as a hum.
        LampsListen z = Check.on("lamp 0 10 0 0;lamp 2 20 0 0;loud 1;");
        Check.month(z, "frost 9;");
        C.due("10, on, on, 20", z.round(NONE), 4);
        C.due("none is dark", z.flat(2), 0);
        C.due("no day", z.flat(0), NONE);
    }

    // ---- the log

    private static void logBounds() {
        LampsListen x = Check.on("lamp 0 10 0 0;");
        for (int k = 1; k <= 40; k++) {
            C.due("entry " + (k - 1), x.log(k & 1), k);
        }
        C.due("a 41st", x.log(0), FULL);
        C.due("UNKNOWN goes before FULL", x.log(2), UNKNOWN);
        C.due("UNKNOWN goes before FULL", x.log(-1), UNKNOWN);
        C.due("40 stay", x.told(5), 40);
        C.due("clear", x.clear(), 40);
        C.due("the first again", x.log(0), 1);
        C.due("the same again", x.log(0), 2);
        C.due("UNKNOWN", x.log(2), UNKNOWN);
        C.due("two", x.told(5), 2);
    }

    private static void clearAll() {
        LampsListen x = Check.on("lamp 0 10 0 0;");
        C.due("none", x.clear(), 0);
        x.log(1);
        C.due("wrong", x.judge(), 0);
        C.due("one", x.clear(), 1);
        C.due("none", x.clear(), 0);
        C.due("nothing is wrong", x.judge(), NONE);
    }

    private static void judgeEmpty() {
        LampsListen x = Check.on("lamp 0 10 0 0;");
        C.due("no entries", x.judge(), NONE);
        x.hum(0, 10);
        C.due("no entries", x.judge(), NONE);
    }

    private static void judgeFirstAndLast() {
        LampsListen x = Check.on("lamp 0 10 0 0;burn 41;moths 99;");
        x.hum(0, 10);
        for (int k = 0; k < 39; k++) {
            x.log(1);
        }
        x.log(0);
        C.due("the 40th is other", x.judge(), 39);
        x.clear();
        for (int k = 0; k < 40; k++) {
            x.log(1);
        }
        C.due("all 40 are as it is", x.judge(), NONE);
        x.run(1);
        C.due("a minute on, the 40th is other", x.judge(), 39);
        x.clear();
        x.log(0);
        x.log(0);
        C.due("the first is other, and the next", x.judge(), 0);
    }

    /** Entry 0 is of the end of the next minute, not of now. */
    private static void judgeFromNow() {
        LampsListen x = Check.on("lamp 0 10 0 0;singer 0 1 10 10;burn 2;");
        Check.night(x, "sing 1 0 10;");
        x.log(0);
        x.log(1);
        x.log(0);
        C.due("from minute 0", x.judge(), NONE);
        x.run(1);
        C.due("from minute 1", x.judge(), 0);
        x.clear();
        x.log(1);
        x.log(0);
        C.due("from minute 1", x.judge(), NONE);
        x.run(1);
        C.due("it burns now, but not at the next end", x.judge(), 0);
        // What is seen counts, not what burns.
        LampsListen y = Check.on("lamp 0 10 0 0;burn 9;moths 2;");
        y.hum(0, 10);
        y.log(1);
        y.log(0);
        C.due("dim at the second end", y.judge(), NONE);
        y.sweep(0);
        y.run(1);
        C.due("dim at the next end", y.judge(), 0);
        // By the seed 0 the wind is heard at place 0, note 28, then at place 38, note 37.
        LampsListen z = Check.on("lamp 0 28 0 0;lamp 38 37 0 0;");
        z.log(1);
        z.log(3);
        C.due("no wind", z.judge(), 0);
        z.weather(1, 1);
        C.due("wind by the seed as it is", z.judge(), NONE);
        z.run(1);
        C.due("the seed is another one", z.judge(), 0);
    }

    private static void judgeChangesNothing() {
        LampsListen x = Check.on("lamp 0 28 0 0;burn 9;");
        x.weather(1, 50);
        x.hum(0, 28);
        for (int k = 0; k < 40; k++) {
            x.log(1);
        }
        x.judge();
        C.due("minute", x.told(10), 0);
        C.due("burns", x.lamp(0, 5), 9);
        C.due("moths", x.lamp(0, 6), 0);
        C.due("leader", x.lamp(0, 7), HUMMER);
        C.due("entries", x.told(5), 40);
        C.due("seed", x.seed(0), 0);
    }

    // ---- seed, images

    private static void seedBounds() {
        LampsListen x = new LampsListen();
        C.due("0 at first", x.seed(0), 0);
        C.due("-1", x.seed(-1), OUTSIDE);
        C.due("the least", x.seed(Integer.MIN_VALUE), OUTSIDE);
        C.due("1", x.seed(1), 0);
        C.due("the most", x.seed(2147483647), 1);
        C.due("-1", x.seed(-1), OUTSIDE);
        C.due("the most stays", x.seed(2147483646), 2147483647);
        C.due("one less", x.seed(0), 2147483646);
    }

    private static void imageNumbers() {
        LampsListen x = Check.on("lamp 0 10 0 0;");
        C.due("keep -1", x.keep(-1), UNKNOWN);
        C.due("keep 2", x.keep(2), UNKNOWN);
        C.due("goBack -1", x.goBack(-1), UNKNOWN);
        C.due("goBack 2", x.goBack(2), UNKNOWN);
        for (int far : FAR) {
            C.due("keep " + far, x.keep(far), UNKNOWN);
            C.due("goBack " + far, x.goBack(far), UNKNOWN);
        }
        C.due("0 is not kept by those", x.goBack(0), NOT);
        C.due("1 is not kept by those", x.goBack(1), NOT);
        C.due("keep 0", x.keep(0), 1);
        C.due("goBack 0", x.goBack(0), 1);
        C.due("keep 1", x.keep(1), 1);
        C.due("goBack 1", x.goBack(1), 1);
    }

    private static void imageNotKept() {
        LampsListen x = Check.on("lamp 0 10 0 0;");
        x.hum(0, 10);
        x.run(2);
        C.due("0 was not kept", x.goBack(0), NOT);
        C.due("as it was", x.told(10), 2);
        x.keep(1);
        C.due("1 was, 0 not", x.goBack(0), NOT);
        C.due("as it was", x.lit(0), 1);
        LampsListen y = Check.on("lamp 0 10 0 0;");
        y.keep(0);
        C.due("0 was, 1 not", y.goBack(1), NOT);
        y.goBack(0);
        C.due("going back keeps none", y.goBack(1), NOT);
    }

    private interface Change {
        void on(LampsListen x);
    }

    private interface Ask {
        int of(LampsListen x);
    }

    /** Each thing by itself: kept, changed, as it was again. */
    private static void imageKeepsEach() {
        kept("note", x -> x.file(0, 40), x -> x.lamp(0, 1));
        kept("ear", x -> x.file(0, 40), x -> x.lamp(0, 4));
        kept("what burns", x -> x.hum(0, 20), x -> x.lit(0));
        kept("minutes left", x -> x.hum(0, 8), x -> x.lamp(0, 5));
        kept("moths", x -> x.sweep(0), x -> x.lamp(0, 6));
        kept("leader", x -> x.hum(0, 20), x -> x.lamp(1, 7));
        kept("minute", x -> x.run(1), x -> x.told(10));
        kept("frost", x -> x.weather(0, 5), x -> x.told(11));
        kept("wind", x -> x.weather(1, 5), x -> x.told(12));
        kept("seed", x -> x.seed(1000), x -> x.seed(7));
        kept("all by dark", LampsListen::dark, x -> x.lamp(0, 6));
        kept("the round", x -> x.file(0, 40), x -> x.round(0));
    }

    private static void kept(String what, Change change, Ask ask) {
        for (int image = 0; image < 2; image++) {
            LampsListen x = imageQuay();
            LampsListen same = imageQuay();
            LampsListen changed = imageQuay();
            x.keep(image);
            change.on(x);
            change.on(changed);
            int due = ask.of(same);
            C.holds(what + " is changed", ask.of(changed) != due);
            C.due(what + ": goBack", x.goBack(image), 1);
            C.due(what + " of image " + image, ask.of(x), due);
        }
    }

    private static LampsListen imageQuay() {
        LampsListen x = Check.on("lamp 0 10 0 1;lamp 0 20 0 0;");
        x.hum(0, 10);
        x.run(3);
        x.weather(0, 2);
        x.weather(1, 3);
        x.seed(77);
        return x;
    }

    /** What an image does not keep stays as it is when one goes back. */
    private static void imageLeaves() {
        LampsListen x = Check.on("lamp 0 10 0 0;singer 0 1 10 10;");
        x.keep(0);
        Check.night(x, "sing 0 0 10;");
        Check.month(x, "frost 1;");
        x.signal(1);
        x.log(1);
        Check.tell(x, "lamp");
        C.due("goBack", x.goBack(0), 1);
        C.due("songs", x.told(2), 1);
        C.due("days", x.told(3), 1);
        C.due("signals", x.told(4), 1);
        C.due("log", x.told(5), 1);
        C.due("text", x.told(6), 4);
        C.due("the song is sung", x.run(1), 1);
    }

    private static void imageAgain() {
        LampsListen x = Check.on("lamp 0 10 0 0;");
        x.keep(0);
        x.run(1);
        x.keep(1);
        x.run(1);
        x.goBack(0);
        C.due("image 0", x.told(10), 0);
        x.goBack(1);
        C.due("image 1", x.told(10), 1);
        x.run(5);
        x.goBack(1);
        C.due("what is so now is no image", x.told(10), 1);
        x.run(5);
        x.keep(0);
        x.goBack(1);
        x.goBack(0);
        C.due("kept anew", x.told(10), 6);
        x.goBack(1);
        C.due("the other one stays", x.told(10), 1);
    }

    private static void quayAndImages() {
        LampsListen x = Check.on("lamp 0 10 0 0;");
        x.keep(0);
        x.run(3);
        C.due("a fault", Check.quay(x, "?"), -11);
        C.due("images stay with a fault", x.goBack(0), 1);
        x.keep(1);
        C.due("another quay", Check.quay(x, "lamp 0 10 0 0;"), 1);
        C.due("image 0 is gone", x.goBack(0), NOT);
        C.due("image 1 is gone", x.goBack(1), NOT);
        x.keep(0);
        C.due("a night", Check.night(x, ""), 0);
        C.due("a month", Check.month(x, ""), 0);
        C.due("images stay with those", x.goBack(0), 1);
    }
}

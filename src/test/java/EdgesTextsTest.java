/** Part 1 of the terms, promises 1 to 9: every boundary that a sentence of the document names, from each side. */
public final class EdgesTextsTest {
    private static final int NONE = LampsListen.NONE, UNKNOWN = LampsListen.UNKNOWN, OUTSIDE = LampsListen.OUTSIDE;
    private static final int NOT = LampsListen.NOT, FULL = LampsListen.FULL;
    private static final int[] FAR = {Integer.MIN_VALUE, Integer.MIN_VALUE + 1, -2, Integer.MAX_VALUE - 1, Integer.MAX_VALUE};
    private static final String LAMP = "lamp0 0 0 0;";
    private static final String SINGER = "singer0 1 0 0;";
    // Singer 0 has notes 5 to 12, singer 1 has all, singer 2 has one.
    private static final String SINGERS = "singer 0 1 5 12;singer 0 1 0 63;singer 0 1 63 63;";

    private static final Check C = new Check("EdgesTextsTest");

    /** What a number that a text tells is read back by. */
    private interface Ask {
        int of(LampsListen x);
    }

    private interface Teller {
        int tell(LampsListen x, String text);
    }

    public static void main(String[] args) {
        constants();
        newObject();
        feedBounds();
        feedFull();
        feedBytes();
        quayNumbers();
        quayOnce();
        quayCounts();
        quayAnew("lamp 9 8 0 2;", 1);
        quayAnew("burn 6;", 0);
        quayAnew("", 0);
        quayStaysWithAFault();
        lampsAndSingersAnew();
        nightNumbers();
        nightOrder();
        nightAnew();
        monthNumbers();
        monthLength();
        figures();
        signsBesideLettersAndFigures();
        letters();
        blanks();
        emptyTexts();
        theEnd();
        longestTexts();
        firstByteFirst();
        leastOfOneByte();
        faultOfTheLatest();
        toldBounds();
        lampBounds();
        singerBounds();
        C.end();
    }

    // ---- a text that stands, a text that has a fault

    private static void stands(String text, Teller teller, int due, Ask ask, int value) {
        LampsListen x = Check.on(SINGERS);
        C.due("'" + text + "'", teller.tell(x, text), due);
        C.due("no fault of '" + text + "'", x.fault(), NONE);
        C.due("no text behind '" + text + "'", x.told(6), 0);
        C.due("what '" + text + "' tells", ask.of(x), value);
    }

    private static void falls(String text, Teller teller, int number, int place) {
        LampsListen x = Check.on(LAMP + "burn7;" + SINGERS);
        Check.night(x, "sing 3 0 5;");
        Check.month(x, "frost 4;frost 5;");
        C.due("'" + text + "'", teller.tell(x, text), -10 - number);
        C.due("fault of '" + text + "'", x.fault(), place);
        C.due("no text behind '" + text + "'", x.told(6), 0);
        int[] before = {1, 3, 1, 2, 0, 0, 0, 7, 30, 5, 0, 0, 0};
        for (int what = 0; what < before.length; what++) {
            C.due("told " + what + " behind '" + text + "'", x.told(what), before[what]);
        }
    }

    private static void quayFalls(String text, int number, int place) {
        falls(text, Check::quay, number, place);
    }

    private static void nightFalls(String text, int number, int place) {
        falls(text, Check::night, number, place);
    }

    private static void monthFalls(String text, int number, int place) {
        falls(text, Check::month, number, place);
    }

    /** The least and the most stand and are read back; one less and one more are fault 2 at the number's first figure. */
    private static void bounds(String ahead, int low, int high, String behind, Teller teller, int due, Ask ask) {
        stands(ahead + low + behind, teller, due, ask, low);
        stands(ahead + high + behind, teller, due, ask, high);
        falls(ahead + (high + 1) + behind, teller, 2, ahead.length());
        falls(ahead + "999" + behind, teller, 2, ahead.length());
        // Below 0 there is no number to tell: the sign cannot stand.
        falls(ahead + (low - 1) + behind, teller, low == 0 ? 1 : 2, ahead.length());
    }

    // ---- the face, a new object

    private static long value(String constant) {
        try {
            return LampsListen.class.getField(constant).getInt(null);
        } catch (ReflectiveOperationException e) {
            return Long.MIN_VALUE;
        }
    }

    private static void constants() {
        C.due("NONE", value("NONE"), -1);
        C.due("WIND", value("WIND"), -2);
        C.due("HUMMER", value("HUMMER"), -3);
        C.due("UNKNOWN", value("UNKNOWN"), -1001);
        C.due("OUTSIDE", value("OUTSIDE"), -1002);
        C.due("NOT", value("NOT"), -1003);
        C.due("FULL", value("FULL"), -1004);
    }

    private static void newObject() {
        LampsListen x = new LampsListen();
        int[] due = {0, 0, 0, 0, 0, 0, 0, 20, 30, 5, 0, 0, 0};
        for (int what = 0; what < due.length; what++) {
            C.due("new, told " + what, x.told(what), due[what]);
        }
        C.due("lamp 0", x.lamp(0, 0), UNKNOWN);
        C.due("a set of lamp 0", x.signal(1), UNKNOWN);
        C.due("the set of none", x.signal(0), 0);
        C.due("the seed", x.seed(0), 0);
        C.due("no text fed, a quay", x.quay(), 0);
        C.due("no text fed, a night", x.night(), 0);
        C.due("no text fed, a month", x.month(), 0);
    }

    // ---- promise 2

    private static void feedBounds() {
        LampsListen x = new LampsListen();
        C.due("feed 0", x.feed(0, 32), OUTSIDE);
        C.due("feed 1", x.feed(1, 32), 1);
        C.due("feed 8", x.feed(8, 32), 9);
        C.due("feed 9", x.feed(9, 32), OUTSIDE);
        C.due("feed -1", x.feed(-1, 32), OUTSIDE);
        for (int far : FAR) {
            C.due("feed " + far, x.feed(far, 32), OUTSIDE);
        }
        C.due("what was refused did not come", x.told(6), 9);
    }

    private static LampsListen fed(int bytes) {
        LampsListen x = new LampsListen();
        Check.tell(x, " ".repeat(bytes));
        return x;
    }

    /** On each side of 400 for each n. */
    private static void feedFull() {
        for (int n = 1; n <= 8; n++) {
            LampsListen x = fed(400 - n);
            C.due("up to 400 by " + n, x.feed(n, 0x2020202020202020L), 400);
            C.due("the quay of it", x.quay(), 0);
            C.due("empty then: feed " + n, x.feed(n, 0), n);
            LampsListen y = fed(401 - n);
            C.due("401 by " + n, y.feed(n, 0x3b3b3b3b3b3b3b3bL), FULL);
            C.due("nothing came", y.told(6), 401 - n);
            C.due("what there was stands", y.quay(), 0);
        }
        LampsListen full = fed(400);
        C.due("OUTSIDE goes before FULL", full.feed(9, 0), OUTSIDE);
        C.due("OUTSIDE goes before FULL", full.feed(0, 0), OUTSIDE);
        C.due("400 stay", full.told(6), 400);
    }

    /** The lowest n bytes, the highest of these first; each byte is 0 to 255. */
    private static void feedBytes() {
        for (int n = 1; n <= 8; n++) {
            LampsListen x = new LampsListen();
            x.feed(n, 0x7820202020202020L >>> 8 * (8 - n));
            C.due("the highest of " + n + " is first", x.quay(), -11);
            C.due("at 0", x.fault(), 0);
            x.feed(n, 0x2020202020202078L);
            C.due("the lowest of " + n + " is last", x.quay(), -11);
            C.due("at the last", x.fault(), n - 1);
            if (n < 8) {
                x.feed(n, 0x7878787878787878L << 8 * n | 0x2020202020202020L >>> 8 * (8 - n));
                C.due("what is above the lowest " + n + " is not told", x.quay(), 0);
            }
        }
        LampsListen x = new LampsListen();
        x.feed(8, 0xff20202020202020L);
        C.due("255 first", x.quay(), -11);
        C.due("at 0", x.fault(), 0);
        x.feed(8, 0x20202020202020a0L);
        C.due("160 is no blank", x.quay(), -11);
        C.due("at 7", x.fault(), 7);
        x.feed(2, 0x0120);
        C.due("byte 1", x.quay(), -11);
        C.due("at 0", x.fault(), 0);
    }

    // ---- promises 3 to 5: numbers and counts

    private static void quayNumbers() {
        bounds("lamp ", 0, 49, " 0 0 0;", Check::quay, 1, x -> x.lamp(0, 0));
        bounds("lamp 0 ", 0, 63, " 0 0;", Check::quay, 1, x -> x.lamp(0, 1));
        bounds("lamp 0 0 ", 0, 9, " 0;", Check::quay, 1, x -> x.lamp(0, 2));
        bounds("lamp 0 0 0 ", 0, 5, ";", Check::quay, 1, x -> x.lamp(0, 3));
        bounds("burn ", 1, 99, ";", Check::quay, 0, x -> x.told(7));
        bounds("moths ", 1, 99, ";", Check::quay, 0, x -> x.told(8));
        bounds("loud ", 1, 50, ";", Check::quay, 0, x -> x.told(9));
        bounds("singer ", 0, 49, " 1 0 0;", Check::quay, 0, x -> x.singer(0, 0));
        bounds("singer 0 ", 1, 50, " 0 0;", Check::quay, 0, x -> x.singer(0, 1));
        bounds("singer 0 1 ", 0, 63, " 63;", Check::quay, 0, x -> x.singer(0, 2));
        bounds("singer 0 1 0 ", 0, 63, ";", Check::quay, 0, x -> x.singer(0, 3));
        bounds("singer 0 1 7 ", 7, 63, ";", Check::quay, 0, x -> x.singer(0, 3));
        bounds("singer 0 1 63 ", 63, 63, ";", Check::quay, 0, x -> x.singer(0, 3));
        // V's bound is the U of its own clause, not of another one.
        stands("singer 0 1 9 9;singer 0 1 3 4;", Check::quay, 0, x -> x.singer(1, 3), 4);
        quayFalls("singer 0 1 3 9;singer 0 1 8 7;", 2, 28);
    }

    private static void quayOnce() {
        stands("burn 1;moths 2;loud 3;", Check::quay, 0, x -> x.told(7), 1);
        stands("moths 2;loud 3;", Check::quay, 0, x -> x.told(7), 20);
        stands("burn 1;loud 3;", Check::quay, 0, x -> x.told(8), 30);
        stands("burn 1;moths 2;", Check::quay, 0, x -> x.told(9), 5);
        quayFalls("burn 1;burn 1;", 3, 7);
        quayFalls("burn 20;burn 20;", 3, 8);
        quayFalls("burn 1;moths 1;loud 1;burn 1;", 3, 22);
        quayFalls("moths 30;loud 2;moths 30;", 3, 16);
        quayFalls("loud 5; loud 5;", 3, 8);
        // What an earlier text told, also one with a fault, does not count.
        LampsListen x = Check.on("burn 3;moths 3;loud 3;");
        C.due("told anew", Check.quay(x, "burn 4;moths 5;loud 6;"), 0);
        C.due("told anew", x.told(7), 4);
        C.due("a fault behind burn", Check.quay(x, "burn 9;?"), -11);
        C.due("burn after a fault", Check.quay(x, "burn 8;"), 0);
        C.due("burn 8", x.told(7), 8);
        C.due("untold anew", x.told(8), 30);
        C.due("untold anew", x.told(9), 5);
    }

    private static void quayCounts() {
        stands(LAMP, Check::quay, 1, x -> x.told(0), 1);
        stands(LAMP.repeat(9), Check::quay, 9, x -> x.told(0), 9);
        stands(LAMP.repeat(10), Check::quay, 10, x -> x.told(0), 10);
        quayFalls(LAMP.repeat(11), 3, 120);
        quayFalls(LAMP.repeat(10) + " lamp", 3, 121);
        stands(SINGER.repeat(7), Check::quay, 0, x -> x.told(1), 7);
        stands(SINGER.repeat(8), Check::quay, 0, x -> x.told(1), 8);
        quayFalls(SINGER.repeat(9), 3, 112);
        quayFalls(SINGER.repeat(8) + LAMP + "singer", 3, 124);
        stands(LAMP.repeat(10) + SINGER.repeat(8), Check::quay, 10, x -> x.told(1), 8);
        quayFalls(LAMP.repeat(10) + SINGER.repeat(8) + LAMP, 3, 232);
        // Ten lamps with a fault behind them leave room for ten more.
        LampsListen x = new LampsListen();
        Check.quay(x, LAMP.repeat(10) + SINGER.repeat(8) + "?");
        C.due("ten behind a fault", Check.quay(x, LAMP.repeat(10) + SINGER.repeat(8)), 10);
        C.due("ten behind ten", Check.quay(x, LAMP.repeat(10) + SINGER.repeat(8)), 10);
    }

    private static LampsListen full() {
        LampsListen x = Check.on("lamp 1 10 1 1;lamp 3 20 1 1;" + SINGERS);
        Check.night(x, "sing 0 0 10;sing 9 0 10;");
        Check.month(x, "frost 1;frost 2;frost 3;");
        x.signal(1);
        x.signal(2);
        x.log(1);
        x.hum(1, 10);
        x.hum(3, 20);
        x.run(4);
        x.weather(0, 2);
        x.weather(1, 7);
        x.file(0, 30);
        x.seed(123);
        x.keep(0);
        x.keep(1);
        return x;
    }

    /** Of a quay that is told, with lamps or without, nothing of the one before is left but the month and the seed. */
    private static void quayAnew(String text, int lamps) {
        LampsListen x = full();
        C.due("quay '" + text + "'", Check.quay(x, text), lamps);
        int[] due = {lamps, 0, 0, 3, 0, 0, 0, text.startsWith("burn") ? 6 : 20, 30, 5, 0, 0, 0};
        for (int what = 0; what < due.length; what++) {
            C.due("told " + what + " on '" + text + "'", x.told(what), due[what]);
        }
        C.due("nothing burns on '" + text + "'", x.lit(0), 0);
        C.due("image 0 is gone on '" + text + "'", x.goBack(0), NOT);
        C.due("image 1 is gone on '" + text + "'", x.goBack(1), NOT);
        C.due("the seed stays on '" + text + "'", x.seed(0), 123);
        C.due("lamp 1 is gone on '" + text + "'", x.lamp(1, 0), UNKNOWN);
        int[] told = {9, 8, 0, 2, 8, 0, 0, NONE};
        for (int what = 0; what < told.length; what++) {
            C.due("lamp 0 " + what + " on '" + text + "'", x.lamp(0, what), lamps == 0 ? UNKNOWN : told[what]);
        }
        C.due("days stay on '" + text + "'", x.flat(1), 3 * lamps);
        C.due("the last stays on '" + text + "'", x.flat(4), lamps);
    }

    private static void quayStaysWithAFault() {
        LampsListen x = full();
        C.due("a fault", Check.quay(x, "lamp 9 8 7 2;burn"), -11);
        int[] due = {2, 3, 2, 3, 2, 1, 0, 20, 30, 5, 4, 2, 7};
        for (int what = 0; what < due.length; what++) {
            C.due("told " + what + " with a fault", x.told(what), due[what]);
        }
        C.due("what burns, with a fault", x.lit(0), 3);
        C.due("as filed, with a fault", x.lamp(0, 1), 30);
        C.due("image 0 stays", x.goBack(0), 1);
        C.due("image 1 stays", x.goBack(1), 1);
        C.due("the seed stays", x.seed(0), 123);
    }

    /** Nothing of a text that was told before, or that had a fault, is left in the one that is told then. */
    private static void lampsAndSingersAnew() {
        LampsListen x = Check.on("lamp 1 2 3 4;singer 5 6 7 8;");
        Check.quay(x, "lamp 9 9 9 5;singer 9 9 9 9;?");
        Check.quay(x, "lamp 11 12 6 5;singer 15 16 17 18;");
        int[] lamp = {11, 12, 6, 5};
        int[] singer = {15, 16, 17, 18};
        for (int what = 0; what < 4; what++) {
            C.due("lamp 0 " + what, x.lamp(0, what), lamp[what]);
            C.due("singer 0 " + what, x.singer(0, what), singer[what]);
        }
        C.due("no second lamp", x.lamp(1, 0), UNKNOWN);
        C.due("no second singer", x.singer(1, 0), UNKNOWN);
    }

    private static void nightAnew() {
        LampsListen x = Check.on("lamp 0 10 0 0;lamp 0 20 0 0;burn 1;" + "singer 0 1 0 63;".repeat(2));
        Check.night(x, "sing 0 0 10;sing 2 0 10;");
        Check.night(x, "sing 0 0 10;?");
        Check.night(x, "sing 1 1 20;");
        x.run(1);
        C.due("no song of the night before", x.lamp(0, 7), NONE);
        x.run(2);
        C.due("none of the night before", x.lamp(0, 7), NONE);
        C.due("the song that was told", x.lamp(1, 7), 1);
        C.due("what goes by stays", x.told(10), 3);
    }

    private static void nightNumbers() {
        Ask songs = x -> x.told(2);
        stands("sing 0 1 0;", Check::night, 1, songs, 1);
        stands("sing 599 1 0;", Check::night, 1, songs, 1);
        nightFalls("sing 600 1 0;", 2, 5);
        nightFalls("sing -1 1 0;", 1, 5);
        stands("sing 0 2 63;", Check::night, 1, songs, 1);
        nightFalls("sing 0 3 63;", 2, 7);
        nightFalls("sing 0 -1 63;", 1, 7);
        stands("sing 0 0 5;", Check::night, 1, songs, 1);
        stands("sing 0 0 12;", Check::night, 1, songs, 1);
        nightFalls("sing 0 0 4;", 2, 9);
        nightFalls("sing 0 0 13;", 2, 9);
        stands("sing 0 1 4;sing 0 1 13;", Check::night, 2, songs, 2);
        nightFalls("sing 0 1 64;", 2, 9);
        nightFalls("sing 0 2 62;", 2, 9);
        nightFalls("sing 0 2 64;", 2, 9);
        stands("sing0 1 0;".repeat(29), Check::night, 29, songs, 29);
        stands("sing0 1 0;".repeat(30), Check::night, 30, songs, 30);
        nightFalls("sing0 1 0;".repeat(31), 3, 300);
        nightFalls("sing0 1 0;".repeat(30) + "  sing", 3, 302);
        LampsListen eight = Check.on(SINGER.repeat(8));
        C.due("the eighth singer", Check.night(eight, "sing 0 7 0;"), 1);
        C.due("a ninth", Check.night(eight, "sing 0 8 0;"), -12);
        C.due("at it", eight.fault(), 7);
        LampsListen one = Check.on(SINGER);
        C.due("the only singer", Check.night(one, "sing 0 0 0;"), 1);
        C.due("a second", Check.night(one, "sing 0 1 0;"), -12);
        LampsListen none = Check.on(LAMP);
        C.due("no singers", Check.night(none, "sing 0 0 0;"), -12);
        C.due("at the singer", none.fault(), 7);
    }

    private static void nightOrder() {
        Ask songs = x -> x.told(2);
        stands("sing 7 1 0;sing 7 1 0;", Check::night, 2, songs, 2);
        stands("sing 7 1 0;sing 8 1 0;", Check::night, 2, songs, 2);
        nightFalls("sing 7 1 0;sing 6 1 0;", 4, 16);
        stands("sing 599 1 0;sing 599 1 0;", Check::night, 2, songs, 2);
        nightFalls("sing 599 1 0;sing 598 1 0;", 4, 18);
        stands("sing 0 1 0;sing 0 1 0;sing 1 1 0;", Check::night, 3, songs, 3);
        nightFalls("sing 0 1 0;sing 1 1 0;sing 0 1 0;", 4, 27);
        // It is the one ahead that counts, also figures that are longer.
        stands("sing 9 1 0;sing 10 1 0;", Check::night, 2, songs, 2);
        nightFalls("sing 10 1 0;sing 9 1 0;", 4, 17);
        stands("sing 9 1 0;sing 009 1 0;", Check::night, 2, songs, 2);
        // A night before this one does not count.
        LampsListen x = Check.on(SINGERS);
        Check.night(x, "sing 500 1 0;");
        C.due("from 0 anew", Check.night(x, "sing 0 1 0;"), 1);
        Check.night(x, "sing 500 1 0;?");
        C.due("from 0 anew behind a fault", Check.night(x, "sing 0 1 0;sing 1 1 0;"), 2);
    }

    private static void monthNumbers() {
        bounds("frost ", 0, 9, ";", Check::month, 1, EdgesTextsTest::frostOfFirstDay);
        stands("frost 0;frost 9;", Check::month, 2, x -> x.told(3), 2);
        monthFalls("frost 9;frost 10;", 2, 14);
    }

    /** A lamp that is flat by one and hears one note: the frost under which the round that is found leaves none dark. */
    private static int frostOfFirstDay(LampsListen x) {
        Check.quay(x, "lamp 0 9 0 1;");
        for (int frost = 0; frost <= 9; frost++) {
            x.weather(0, frost);
            if (x.flat(2) == 0) {
                return frost;
            }
        }
        return NONE;
    }

    private static void monthLength() {
        // 28 days are all that 200 bytes hold, so a 31st never comes.
        stands("frost9;".repeat(28), Check::month, 28, x -> x.told(3), 28);
        stands("frost9;".repeat(28) + "    ", Check::month, 28, x -> x.told(3), 28);
        stands(" ".repeat(193) + "frost9;", Check::month, 1, x -> x.told(3), 1);
        monthFalls("frost9;".repeat(28) + "fros", 1, 196);
        monthFalls("frost9" + " ".repeat(194), 1, 200);
        int[] tooLong = {201, 202, 399, 400};
        for (int bytes : tooLong) {
            LampsListen x = new LampsListen();
            Check.month(x, "frost 1;frost 2;");
            Check.night(x, "   ?");
            Check.tell(x, "frost9;" + " ".repeat(bytes - 7));
            C.due(bytes + " bytes", x.month(), NOT);
            C.due("the text stays", x.told(6), bytes);
            C.due("the days stay", x.told(3), 2);
            C.due("the fault stays", x.fault(), 3);
            C.due("again", x.month(), NOT);
            C.due("no quay", x.quay(), -11);
            C.due("the text is empty", x.told(6), 0);
            C.due("a month then", Check.month(x, "frost 3;"), 1);
        }
        // More than 200 bytes are NOT whatever they tell.
        LampsListen y = fed(200);
        y.feed(1, '?');
        C.due("201 with a fault", y.month(), NOT);
        C.due("no fault yet", y.fault(), NONE);
        LampsListen z = fed(199);
        z.feed(1, '?');
        C.due("200 with a fault", z.month(), -11);
        C.due("at 199", z.fault(), 199);
    }

    // ---- what texts are made of

    private static void figures() {
        Ask burn = x -> x.told(7);
        stands("burn 7;", Check::quay, 0, burn, 7);
        stands("burn 07;", Check::quay, 0, burn, 7);
        stands("burn 007;", Check::quay, 0, burn, 7);
        quayFalls("burn 0007;", 2, 5);
        quayFalls("burn 00000000000007;", 2, 5);
        quayFalls("burn 4294967303;", 2, 5);
        quayFalls("burn 18446744073709551623;", 2, 5);
        quayFalls("burn 0000;", 2, 5);
        quayFalls("burn 1000;", 2, 5);
        stands("lamp 000 000 000 000;", Check::quay, 1, x -> x.lamp(0, 1), 0);
        quayFalls("lamp 0000 000 000 000;", 2, 5);
        quayFalls("lamp 000 000 000 0000;", 2, 17);
        stands("sing 000 001 000;", Check::night, 1, x -> x.told(2), 1);
        nightFalls("sing 0599 1 0;", 2, 5);
        nightFalls("sing 0 0001 0;", 2, 7);
        nightFalls("sing 0 1 0000;", 2, 9);
        stands("frost 009;", Check::month, 1, x -> x.told(3), 1);
        monthFalls("frost 0009;", 2, 6);
    }

    private static void signsBesideLettersAndFigures() {
        quayFalls("`burn 1;", 1, 0);
        quayFalls("{burn 1;", 1, 0);
        quayFalls("aburn 1;", 1, 0);
        quayFalls("burnz 1;", 1, 0);
        quayFalls("burna 1;", 1, 0);
        quayFalls("burn` 1;", 1, 4);
        quayFalls("burn{ 1;", 1, 4);
        quayFalls("burn /;", 1, 5);
        quayFalls("burn :;", 1, 5);
        quayFalls("burn 1/;", 1, 6);
        quayFalls("burn 1:;", 1, 6);
        quayFalls("burn 1<", 1, 6);
        quayFalls("burn +1;", 1, 5);
        quayFalls("Burn 1;", 1, 0);
        quayFalls("BURN 1;", 1, 0);
        quayFalls("bur 1;", 1, 0);
        quayFalls("burm 1;", 1, 0);
        quayFalls("burnmoths 1;", 1, 0);
        quayFalls("burn moths 1;", 1, 5);
        quayFalls("burn 1;;", 1, 7);
        quayFalls("burn 1moths 1;", 1, 6);
        quayFalls("burn 1 moths 1;", 1, 7);
        quayFalls("1burn 1;", 1, 0);
        quayFalls("sing 0 1 0;", 1, 0);
        quayFalls("frost 0;", 1, 0);
        nightFalls("singer 0 1 0 0;", 1, 0);
        nightFalls("sin 0 1 0;", 1, 0);
        nightFalls("frost 0;", 1, 0);
        nightFalls("lamp 0 0 0 0;", 1, 0);
        monthFalls("frosts 0;", 1, 0);
        monthFalls("fros 0;", 1, 0);
        monthFalls("sing 0 1 0;", 1, 0);
        monthFalls("lamp 0 0 0 0;", 1, 0);
        stands("burn 9;", Check::quay, 0, x -> x.told(7), 9);
        stands("burn 10;", Check::quay, 0, x -> x.told(7), 10);
    }

    /** One letter other, at any place, is another word. */
    private static void letters() {
        String[] quays = {"lamp 0 0 0 0;", "burn 1;", "moths 1;", "loud 1;", "singer 0 1 0 0;"};
        for (String text : quays) {
            for (int k = 0; k < text.indexOf(' '); k++) {
                quayFalls(text.substring(0, k) + "x" + text.substring(k + 1), 1, 0);
            }
        }
        for (int k = 0; k < 4; k++) {
            nightFalls("sing".substring(0, k) + "x" + "sing".substring(k + 1) + " 0 1 0;", 1, 0);
        }
        for (int k = 0; k < 5; k++) {
            monthFalls("frost".substring(0, k) + "x" + "frost".substring(k + 1) + " 0;", 1, 0);
        }
    }

    private static void blanks() {
        stands("burn1;lamp1 2 3 4;", Check::quay, 1, x -> x.lamp(0, 3), 4);
        stands("  burn  1  ;  lamp  1  2  3  4  ;  ", Check::quay, 1, x -> x.lamp(0, 3), 4);
        stands(" sing  599  1  0 ; ", Check::night, 1, x -> x.told(2), 1);
        stands(" frost  9 ; ", Check::month, 1, x -> x.told(3), 1);
        quayFalls("bu rn 1;", 1, 0);
        quayFalls("burn 1 2;", 1, 7);
        quayFalls("lamp 1 2 34;", 2, 9);
        quayFalls("lamp 1 23 4;", 1, 11);
        quayFalls("lamp 1 2 3 4 5;", 1, 13);
        int[] noBlanks = {0, 9, 10, 13, 31, 33, 127, 128, 160, 255};
        for (int sign : noBlanks) {
            quayFalls((char) sign + "burn 1;", 1, 0);
            quayFalls("burn" + (char) sign + "1;", 1, 4);
            quayFalls("burn 1" + (char) sign + ";", 1, 6);
            quayFalls("burn 1;" + (char) sign, 1, 7);
            nightFalls("sing 0" + (char) sign + "1 0;", 1, 6);
            monthFalls("frost 0;" + (char) sign, 1, 8);
        }
    }

    private static void emptyTexts() {
        int[] lengths = {0, 1, 199, 200, 399, 400};
        for (int blanks : lengths) {
            LampsListen x = Check.on(LAMP + SINGERS);
            Check.night(x, "sing 0 1 0;");
            C.due("night of blanks " + blanks, Check.night(x, " ".repeat(blanks)), 0);
            C.due("no fault", x.fault(), NONE);
            C.due("no songs", x.told(2), 0);
            Check.month(x, "frost 1;");
            if (blanks <= 200) {
                C.due("month of blanks " + blanks, Check.month(x, " ".repeat(blanks)), 0);
                C.due("no fault", x.fault(), NONE);
                C.due("no days", x.told(3), 0);
            }
            C.due("quay of blanks " + blanks, Check.quay(x, " ".repeat(blanks)), 0);
            C.due("no fault", x.fault(), NONE);
            C.due("no lamps", x.told(0), 0);
            C.due("no singers", x.told(1), 0);
        }
    }

    /** A clause that the text breaks off: at the text's length, blanks behind it too. */
    private static void theEnd() {
        String[] quays = {"burn", "burn 1", "lamp", "lamp 0", "lamp 0 0", "lamp 0 0 0", "lamp 0 0 0 0", "singer 0 1 0",
            "singer 0 1 0 0", "loud", "moths 99"};
        for (String text : quays) {
            quayFalls(text, 1, text.length());
            quayFalls(text + "   ", 1, text.length() + 3);
            quayFalls(text + " ;;", 1, text.matches("burn 1|lamp 0 0 0 0|singer 0 1 0 0|moths 99") ? text.length() + 2 : text.length() + 1);
        }
        String[] nights = {"sing", "sing 0", "sing 0 1", "sing 0 1 0"};
        for (String text : nights) {
            nightFalls(text, 1, text.length());
            nightFalls(text + " ", 1, text.length() + 1);
        }
        monthFalls("frost", 1, 5);
        monthFalls("frost 0", 1, 7);
        monthFalls("frost 0 ", 1, 8);
        // A word that is broken off is another word: at its first letter.
        quayFalls("bur", 1, 0);
        quayFalls("burn 1;  l", 1, 9);
        nightFalls("sing 0 1 0;sin", 1, 11);
        monthFalls("frost 0;f", 1, 8);
    }

    private static void longestTexts() {
        stands("burn 7;" + " ".repeat(393), Check::quay, 0, x -> x.told(7), 7);
        stands(" ".repeat(393) + "burn 7;", Check::quay, 0, x -> x.told(7), 7);
        quayFalls(" ".repeat(394) + "burn 7", 1, 400);
        quayFalls("burn 7" + " ".repeat(394), 1, 400);
        quayFalls(" ".repeat(399) + ";", 1, 399);
        quayFalls(" ".repeat(399) + "b", 1, 399);
        stands(" ".repeat(390) + "sing0 1 0;", Check::night, 1, x -> x.told(2), 1);
        nightFalls(" ".repeat(391) + "sing0 1 0", 1, 400);
        nightFalls("sing0 1 0;".repeat(40), 3, 300);
        quayFalls(";".repeat(400), 1, 0);
        quayFalls("7".repeat(400), 1, 0);
        quayFalls("b".repeat(400), 1, 0);
        quayFalls("burn" + "7".repeat(396), 2, 4);
    }

    private static void firstByteFirst() {
        quayFalls("burn 100;?", 2, 5);
        quayFalls("?;burn 100;", 1, 0);
        quayFalls("burn 1;burn 100;", 3, 7);
        quayFalls("burn 100;burn 1;", 2, 5);
        quayFalls("lamp 50 64 10 6;", 2, 5);
        quayFalls("lamp 0 64 ?", 2, 7);
        quayFalls("lamp 0 ? 10 6;", 1, 7);
        nightFalls("sing 9 1 0;sing 8 9 99;", 4, 16);
        nightFalls("sing 9 1 64;sing 8 1 0;", 2, 9);
        nightFalls("sing 9 9 0;sing 8 1 0;", 2, 7);
        nightFalls("sing 9 1 0;?sing 8 1 0;", 1, 11);
        nightFalls("sing 9 1 0 sing 8 1 0;", 1, 11);
        nightFalls("sing0 1 0;".repeat(30) + "sing 600", 3, 300);
        monthFalls("frost 10;?", 2, 6);
        monthFalls("?frost 10;", 1, 0);
    }

    private static void leastOfOneByte() {
        // 1 before 2: a number where none can stand, whatever it says.
        quayFalls("burn 1 1000;", 1, 7);
        quayFalls("1000;", 1, 0);
        nightFalls("sing 0 1 0 1000;", 1, 11);
        monthFalls("frost 0 1000;", 1, 8);
        // 1 before 3: one too many where no word can stand, or a word that only begins like it.
        quayFalls("burn 1 burn 1;", 1, 7);
        quayFalls("burn 1;burns 1;", 1, 7);
        quayFalls(LAMP.repeat(9) + "lamp0 0 0 0 " + LAMP, 1, 120);
        quayFalls(LAMP.repeat(10) + "lamps", 1, 120);
        quayFalls(LAMP.repeat(10) + "la", 1, 120);
        quayFalls(SINGER.repeat(8) + "sing", 1, 112);
        nightFalls("sing0 1 0;".repeat(30) + "sings", 1, 300);
        nightFalls("sing0 1 0;".repeat(30) + ";", 1, 300);
        // 2 before 4: a minute of four figures that is less, too.
        nightFalls("sing 5 1 0;sing 0004 1 0;", 2, 16);
        nightFalls("sing 5 1 0;sing 0005 1 0;", 2, 16);
        nightFalls("sing 5 1 0;sing 004 1 0;", 4, 16);
        nightFalls("sing 5 1 0;sing 600 1 0;", 2, 16);
    }

    // ---- promises 6 to 9

    private static void faultOfTheLatest() {
        LampsListen x = new LampsListen();
        C.due("none yet", x.fault(), NONE);
        Check.quay(x, "?");
        C.due("at the first byte", x.fault(), 0);
        Check.night(x, " ?");
        C.due("of the night", x.fault(), 1);
        Check.month(x, "  ?");
        C.due("of the month", x.fault(), 2);
        C.due("refused", x.feed(0, 0), OUTSIDE);
        C.due("as it was", x.fault(), 2);
        Check.tell(x, " ".repeat(201));
        C.due("NOT", x.month(), NOT);
        C.due("NOT does not count", x.fault(), 2);
        C.due("blanks", x.night(), 0);
        C.due("the latest has none", x.fault(), NONE);
        Check.tell(x, " ".repeat(201));
        C.due("NOT", x.month(), NOT);
        C.due("still none", x.fault(), NONE);
        x.quay();
        Check.month(x, "?");
        C.due("of the month", x.fault(), 0);
        x.month();
        C.due("of an empty one", x.fault(), NONE);
        Check.night(x, "?");
        x.quay();
        C.due("of an empty quay", x.fault(), NONE);
    }

    private static void toldBounds() {
        LampsListen x = Check.on("burn 11;loud 12;");
        C.due("told -1", x.told(-1), OUTSIDE);
        C.due("told 0", x.told(0), 0);
        C.due("told 12", x.told(12), 0);
        C.due("told 13", x.told(13), OUTSIDE);
        for (int far : FAR) {
            C.due("told " + far, x.told(far), OUTSIDE);
        }
    }

    private static void lampBounds() {
        LampsListen x = Check.on("lamp 1 2 3 4;".repeat(9) + "lamp 5 6 7 1;" + SINGER);
        C.due("lamp -1", x.lamp(-1, 0), UNKNOWN);
        C.due("lamp 0", x.lamp(0, 0), 1);
        C.due("lamp 9", x.lamp(9, 0), 5);
        C.due("lamp 10", x.lamp(10, 0), UNKNOWN);
        C.due("what -1", x.lamp(9, -1), OUTSIDE);
        C.due("what 0", x.lamp(9, 0), 5);
        C.due("what 7", x.lamp(9, 7), NONE);
        C.due("what 8", x.lamp(9, 8), OUTSIDE);
        C.due("UNKNOWN goes before OUTSIDE", x.lamp(10, 8), UNKNOWN);
        C.due("UNKNOWN goes before OUTSIDE", x.lamp(-1, -1), UNKNOWN);
        for (int far : FAR) {
            C.due("lamp " + far, x.lamp(far, 0), UNKNOWN);
            C.due("what " + far, x.lamp(0, far), OUTSIDE);
            C.due("both " + far, x.lamp(far, far), UNKNOWN);
        }
        LampsListen one = Check.on(LAMP);
        C.due("the only lamp", one.lamp(0, 1), 0);
        C.due("a second", one.lamp(1, 1), UNKNOWN);
        C.due("a lamp of the quay before", Check.quay(x, LAMP) + x.lamp(1, 0), 1 + UNKNOWN);
    }

    private static void singerBounds() {
        LampsListen x = Check.on("singer 1 2 3 4;".repeat(7) + "singer 5 6 7 8;" + LAMP);
        C.due("singer -1", x.singer(-1, 0), UNKNOWN);
        C.due("singer 0", x.singer(0, 0), 1);
        C.due("singer 7", x.singer(7, 3), 8);
        C.due("singer 8", x.singer(8, 0), UNKNOWN);
        C.due("what -1", x.singer(7, -1), OUTSIDE);
        C.due("what 0", x.singer(7, 0), 5);
        C.due("what 3", x.singer(7, 3), 8);
        C.due("what 4", x.singer(7, 4), OUTSIDE);
        C.due("UNKNOWN goes before OUTSIDE", x.singer(8, 4), UNKNOWN);
        C.due("UNKNOWN goes before OUTSIDE", x.singer(-1, -1), UNKNOWN);
        for (int far : FAR) {
            C.due("singer " + far, x.singer(far, 0), UNKNOWN);
            C.due("what " + far, x.singer(0, far), OUTSIDE);
            C.due("both " + far, x.singer(far, far), UNKNOWN);
        }
    }
}

/** Part 3 of the terms, promises 18 to 28: every boundary that a sentence of the document names, from each side. */
public final class EdgesSignalsTest {
    private static final int NONE = LampsListen.NONE, UNKNOWN = LampsListen.UNKNOWN, OUTSIDE = LampsListen.OUTSIDE;
    private static final int NOT = LampsListen.NOT, FULL = LampsListen.FULL;
    private static final int[] FAR = {Integer.MIN_VALUE, Integer.MIN_VALUE + 1, -2, Integer.MAX_VALUE - 1, Integer.MAX_VALUE};
    private static final String TEN = "lamp 0 0 0 0;lamp 0 7 0 0;lamp 0 14 0 0;lamp 0 21 0 0;lamp 0 28 0 0;lamp 0 35 0 0;"
        + "lamp 0 42 0 0;lamp 0 49 0 0;lamp 0 56 0 0;lamp 0 63 0 0;";

    private static final Check C = new Check("EdgesSignalsTest");

    public static void main(String[] args) {
        setsOfLamps();
        signalBounds();
        signalFull();
        forgetAll();
        shows();
        luredBounds();
        luredNone();
        luredNotes();
        luredPlaces();
        luredCounts();
        apartBounds();
        apartFewerThanD();
        apartPairs();
        fewestBounds();
        fewestOrder();
        fewestNone();
        whoBounds();
        whoNotes();
        whoJust();
        whereBounds();
        wherePlaces();
        fileBounds();
        aloneBounds();
        aloneHighest();
        alonePlaces();
        aloneLowest();
        aloneOrder();
        tunedBounds();
        tunedNot();
        tunedFiled();
        tunedRows();
        C.end();
    }

    // ---- sets

    /** Bits up to those of the lamps that there are; one more and the sign's are unknown. */
    private static void setsOfLamps() {
        for (int lamps = 0; lamps <= 10; lamps++) {
            LampsListen x = Check.on("lamp 0 10 0 0;".repeat(lamps));
            int all = (1 << lamps) - 1;
            int[] unknown = {all + 1, 2 * all + 1 + (lamps == 0 ? 1 : 0), -1, Integer.MIN_VALUE, Integer.MAX_VALUE, 1 << 10, 1 << 30};
            for (int set : unknown) {
                String of = " of " + set + " with " + lamps;
                C.due("signal" + of, x.signal(set), UNKNOWN);
                C.due("log" + of, x.log(set), UNKNOWN);
                C.due("who" + of, x.who(set), UNKNOWN);
                C.due("where" + of, x.where(set, 5), UNKNOWN);
                C.due("lured from" + of, x.lured(set, 0, -1, 5), UNKNOWN);
                C.due("lured to" + of, x.lured(0, set, -1, 5), UNKNOWN);
                C.due("fewest from" + of, x.fewest(set, 0, 5, NONE), UNKNOWN);
                C.due("fewest to" + of, x.fewest(0, set, 5, NONE), UNKNOWN);
            }
            C.due("who of all with " + lamps, x.who(all), 0);
            C.due("where of all with " + lamps, x.where(all, 50), 50);
            C.due("lured to all with " + lamps, x.lured(0, all, -1, 50), lamps == 0 ? 0 : 1);
            C.due("fewest to all with " + lamps, x.fewest(0, all, 50, NONE), lamps == 0 ? 0 : 1);
            C.due("signal of all with " + lamps, x.signal(all), 0);
            C.due("log of all with " + lamps, x.log(all), 1);
            C.due("signal of none with " + lamps, x.signal(0), lamps == 0 ? NOT : 1);
            C.due("log of none with " + lamps, x.log(0), 2);
        }
    }

    private static void signalBounds() {
        LampsListen x = Check.on(TEN);
        C.due("the first", x.signal(1023), 0);
        C.due("it is one already", x.signal(1023), NOT);
        C.due("one lamp less", x.signal(511), 1);
        C.due("the first again", x.signal(1023), NOT);
        C.due("none", x.signal(0), 2);
        C.due("none again", x.signal(0), NOT);
        C.due("three", x.told(4), 3);
    }

    private static void signalFull() {
        LampsListen x = Check.on(TEN);
        for (int k = 0; k < 8; k++) {
            C.due("signal " + k, x.signal(k), k);
        }
        C.due("a ninth", x.signal(8), FULL);
        C.due("NOT goes before FULL", x.signal(0), NOT);
        C.due("NOT goes before FULL", x.signal(7), NOT);
        C.due("UNKNOWN goes before FULL", x.signal(1024), UNKNOWN);
        C.due("eight", x.told(4), 8);
        C.due("forget", x.forget(), 8);
        C.due("a ninth's set is none yet", x.signal(8), 0);
    }

    private static void forgetAll() {
        LampsListen x = Check.on(TEN);
        C.due("none", x.forget(), 0);
        x.signal(5);
        C.due("one", x.forget(), 1);
        C.due("none then", x.forget(), 0);
        C.due("told", x.told(4), 0);
        C.due("no pairs", x.apart(-1, 5, 9, NONE), 0);
        C.due("it may be one again", x.signal(5), 0);
    }

    private static void shows() {
        LampsListen x = Check.on("lamp 0 10 0 0;lamp 0 20 0 0;lamp 0 30 0 0;burn 4;moths 2;");
        C.due("no signals, nothing seen", x.shows(), NONE);
        x.signal(2);
        x.signal(3);
        x.signal(1);
        x.signal(7);
        C.due("nothing seen", x.shows(), NONE);
        x.hum(0, 10);
        C.due("just lamp 0, not a set that has it", x.shows(), 2);
        x.run(1);
        C.due("one moth less than dim", x.shows(), 2);
        x.hum(0, 30);
        C.due("0 and 2 are none, though 0 is", x.shows(), NONE);
        x.hum(0, 20);
        C.due("all", x.shows(), 3);
        x.run(1);
        C.due("0 is dim", x.shows(), NONE);
        x.sweep(0);
        C.due("swept", x.shows(), 3);
        x.dark();
        C.due("nothing", x.shows(), NONE);
        C.due("the set of none", x.signal(0), 4);
        C.due("nothing is a signal", x.shows(), 4);
        LampsListen y = Check.on("lamp 0 10 0 0;");
        for (int k = 0; k < 2; k++) {
            y.signal(k);
        }
        C.due("none", y.shows(), 0);
        y.hum(0, 10);
        C.due("one", y.shows(), 1);
        LampsListen z = Check.on(TEN);
        for (int k = 0; k < 8; k++) {
            z.signal(7 - k);
        }
        C.due("the eighth", z.shows(), 7);
    }

    // ---- lured

    private static void luredBounds() {
        LampsListen x = Check.on(TEN);
        C.due("loud 0", x.lured(0, 1, -1, 0), OUTSIDE);
        C.due("loud 1", x.lured(0, 1, -1, 1), 1);
        C.due("loud 50", x.lured(0, 1, -1, 50), 1);
        C.due("loud 51", x.lured(0, 1, -1, 51), OUTSIDE);
        C.due("loud 0 with nothing to do", x.lured(1, 1, -1, 0), OUTSIDE);
        C.due("loud 51 that cannot be", x.lured(1, 0, -1, 51), OUTSIDE);
        C.due("UNKNOWN goes before OUTSIDE", x.lured(1024, 0, -1, 0), UNKNOWN);
        C.due("UNKNOWN goes before OUTSIDE", x.lured(0, 1024, -1, 51), UNKNOWN);
        for (int far : FAR) {
            C.due("loud " + far, x.lured(0, 1, -1, far), OUTSIDE);
        }
    }

    private static void luredNone() {
        LampsListen x = Check.on("lamp 0 10 0 0;lamp 0 10 1 0;lamp 0 20 0 0;");
        C.due("none to none", x.lured(0, 0, 0, 1), 0);
        C.due("all to all by no notes", x.lured(7, 7, 0, 1), 0);
        C.due("one would have to go out", x.lured(4, 0, -1, 1), NONE);
        C.due("one would have to go out", x.lured(5, 3, -1, 1), NONE);
        C.due("another one wakes too", x.lured(0, 1, -1, 1), NONE);
        C.due("it burns already, so it may", x.lured(2, 3, -1, 1), 1);
        C.due("by a note beside", x.lured(0, 2, -1, 1), 1);
        C.due("only by notes that are told", x.lured(0, 2, 1L << 10, 1), NONE);
        C.due("only by notes that are told", x.lured(0, 2, 1L << 11, 1), 1);
        C.due("no notes", x.lured(0, 2, 0, 1), NONE);
    }

    private static void luredNotes() {
        for (int note = 0; note < 64; note++) {
            LampsListen x = Check.on("lamp 9 " + note + " 0 0;");
            C.due("by note " + note, x.lured(0, 1, 1L << note, 1), 1);
            C.due("by all but note " + note, x.lured(0, 1, ~(1L << note), 50), NONE);
        }
        LampsListen y = Check.on("lamp 9 10 1 0;lamp 9 0 9 5;");
        C.due("the width below", y.lured(0, 1, 1L << 9, 1), NONE);
        C.due("the width above", y.lured(0, 1, 1L << 11, 1), 1);
        C.due("beyond the width", y.lured(0, 1, 1L << 12, 1), NONE);
        y.weather(0, 1);
        C.due("frost frees note 9", y.lured(0, 1, 1L << 9, 1), 1);
        C.due("ear -5 by note 4", y.lured(0, 2, 1L << 4, 1), 1);
        C.due("not by note 5", y.lured(0, 2, 1L << 5, 1), NONE);
    }

    private static void luredPlaces() {
        LampsListen x = Check.on("lamp 0 10 0 0;lamp 49 10 0 0;");
        C.due("place 0", x.lured(0, 1, -1, 1), 1);
        C.due("place 49", x.lured(0, 2, -1, 1), 1);
        C.due("both, by two", x.lured(0, 3, -1, 25), 2);
        C.due("both, midway", x.lured(0, 3, -1, 26), 1);
        C.due("one alone, as loud as 49", x.lured(0, 1, -1, 49), 1);
        C.due("none alone, as loud as 50", x.lured(0, 1, -1, 50), NONE);
        LampsListen y = Check.on("lamp 10 10 0 0;lamp 11 10 0 0;");
        C.due("from the far side", y.lured(0, 1, -1, 11), 1);
        C.due("the far side is the quay's end", y.lured(0, 1, -1, 12), NONE);
        C.due("the other one has more room", y.lured(0, 2, -1, 39), 1);
        C.due("up to place 49", y.lured(0, 2, -1, 40), NONE);
    }

    private static void luredCounts() {
        LampsListen x = Check.on(TEN);
        for (int lamps = 0; lamps <= 10; lamps++) {
            C.due("one by one", x.lured(0, (1 << lamps) - 1, -1, 50), lamps);
            C.due("what is missing", x.lured((1 << lamps) - 1, 1023, -1, 50), 10 - lamps);
        }
        C.due("all at once", Check.on("lamp 0 10 0 0;".repeat(10)).lured(0, 1023, -1, 1), 1);
    }

    // ---- told apart

    private static void apartBounds() {
        LampsListen x = Check.on(TEN);
        x.signal(0);
        x.signal(1);
        C.due("loud 0", x.apart(-1, 0, 2, NONE), OUTSIDE);
        C.due("loud 1", x.apart(-1, 1, 2, NONE), 1);
        C.due("loud 50", x.apart(-1, 50, 2, NONE), 1);
        C.due("loud 51", x.apart(-1, 51, 2, NONE), OUTSIDE);
        C.due("d 0", x.apart(-1, 1, 0, NONE), OUTSIDE);
        C.due("d 1", x.apart(-1, 1, 1, NONE), 0);
        C.due("d 9", x.apart(-1, 1, 9, NONE), 1);
        C.due("d 10", x.apart(-1, 1, 10, NONE), OUTSIDE);
        C.due("pair 0", x.apart(-1, 1, 2, 0), 1);
        C.due("pair 1", x.apart(-1, 1, 2, 1), NONE);
        C.due("OUTSIDE, whichever pair", x.apart(-1, 1, 10, 7), OUTSIDE);
        for (int far : FAR) {
            C.due("loud " + far, x.apart(-1, far, 2, NONE), OUTSIDE);
            C.due("d " + far, x.apart(-1, 1, far, NONE), OUTSIDE);
            C.due("pair " + far, x.apart(-1, 1, 2, far), NONE);
        }
        C.due("no notes", x.apart(0, 1, 9, NONE), 0);
        C.due("that note", x.apart(1, 1, 9, NONE), 1);
        C.due("another note", x.apart(2, 1, 9, NONE), 0);
        x.forget();
        C.due("no signals", x.apart(-1, 1, 9, NONE), 0);
        C.due("no pair", x.apart(-1, 1, 9, 0), NONE);
        x.signal(3);
        C.due("one signal", x.apart(-1, 1, 9, NONE), 0);
    }

    private static void apartFewerThanD() {
        for (int lamps = 1; lamps <= 10; lamps++) {
            LampsListen x = Check.on(TEN);
            x.signal((1 << lamps) - 1);
            x.signal(0);
            for (int d = 1; d <= 9; d++) {
                C.due("by " + lamps + " sounds, d " + d, x.apart(-1, 5, d, NONE), lamps < d ? 1 : 0);
                C.due("the pair", x.apart(-1, 5, d, 0), lamps < d ? 100 : NONE);
            }
        }
        LampsListen y = Check.on("lamp 0 10 0 0;lamp 0 10 0 0;");
        y.signal(0);
        y.signal(1);
        C.due("what cannot be is no fewer than 9", y.apart(-1, 5, 9, NONE), 0);
    }

    private static void apartPairs() {
        LampsListen x = Check.on(TEN);
        for (int k = 0; k < 8; k++) {
            x.signal((1 << k) - 1);
        }
        C.due("all that hold another one", x.apart(-1, 5, 9, NONE), 28);
        int pair = 0;
        for (int from = 0; from < 8; from++) {
            for (int to = from + 1; to < 8; to++) {
                C.due("pair " + pair, x.apart(-1, 5, 9, pair), 100 * from + to);
                pair++;
            }
        }
        C.due("no pair 28", x.apart(-1, 5, 9, 28), NONE);
        C.due("the longest is 7", x.apart(-1, 5, 8, NONE), 28);
        C.due("the longest is 7", x.apart(-1, 5, 7, NONE), 27);
        C.due("neighbours", x.apart(-1, 5, 2, NONE), 7);
        C.due("the last of them", x.apart(-1, 5, 2, 6), 607);
        C.due("no more", x.apart(-1, 5, 2, 7), NONE);
        // Told the other way round, it is the later number that is lured from.
        LampsListen y = Check.on(TEN);
        y.signal(3);
        y.signal(1);
        y.signal(0);
        C.due("three", y.apart(-1, 5, 9, NONE), 3);
        C.due("from 1 to 0", y.apart(-1, 5, 9, 0), 100);
        C.due("from 2 to 0", y.apart(-1, 5, 9, 1), 200);
        C.due("from 2 to 1", y.apart(-1, 5, 9, 2), 201);
    }

    // ---- fewest notes

    private static void fewestBounds() {
        LampsListen x = Check.on(TEN);
        C.due("loud 0", x.fewest(0, 1, 0, NONE), OUTSIDE);
        C.due("loud 1", x.fewest(0, 1, 1, NONE), 1);
        C.due("loud 50", x.fewest(0, 1, 50, NONE), 1);
        C.due("loud 51", x.fewest(0, 1, 51, NONE), OUTSIDE);
        C.due("loud 0, which cannot be", x.fewest(1, 0, 0, NONE), OUTSIDE);
        C.due("UNKNOWN goes before OUTSIDE", x.fewest(1024, 0, 0, 0), UNKNOWN);
        C.due("UNKNOWN goes before OUTSIDE", x.fewest(0, 1024, 51, 0), UNKNOWN);
        C.due("all ten", x.fewest(0, 1023, 5, NONE), 10);
        for (int i = 0; i < 10; i++) {
            C.due("note " + i, x.fewest(0, 1023, 5, i), 7 * i);
        }
        C.due("no eleventh", x.fewest(0, 1023, 5, 10), NONE);
        for (int far : FAR) {
            C.due("loud " + far, x.fewest(0, 1, far, NONE), OUTSIDE);
            C.due("note " + far, x.fewest(0, 1, 5, far), NONE);
        }
        C.due("nothing to do", x.fewest(0, 0, 5, NONE), 0);
        C.due("nothing to do", x.fewest(1023, 1023, 5, NONE), 0);
        C.due("no note of none", x.fewest(1023, 1023, 5, 0), NONE);
        C.due("the last lamp is missing", x.fewest(511, 1023, 5, 0), 63);
        C.due("no second", x.fewest(511, 1023, 5, 1), NONE);
    }

    private static void fewestOrder() {
        LampsListen x = Check.on("lamp 0 5 5 0;lamp 49 9 3 0;lamp 25 14 2 0;");
        C.due("the least note of all", x.fewest(0, 1, 1, 0), 0);
        C.due("the least of both", x.fewest(0, 3, 1, NONE), 1);
        C.due("the least of both", x.fewest(0, 3, 1, 0), 6);
        C.due("two notes for three", x.fewest(0, 7, 1, NONE), 2);
        // 0 to 10, 6 to 12, 12 to 16: 0 and 12 do, and no set with 0 does by a lesser one than 12.
        C.due("the least", x.fewest(0, 7, 1, 0), 0);
        C.due("with it", x.fewest(0, 7, 1, 1), 12);
        C.due("one note beats two, though a lesser one is of them", x.fewest(0, 6, 1, 0), 12);
        LampsListen y = Check.on("lamp 0 63 0 0;lamp 49 63 9 0;");
        C.due("the highest note", y.fewest(0, 3, 1, 0), 63);
        C.due("one note, however often it must be hummed", y.lured(0, 3, 1L << 63, 1), 2);
    }

    private static void fewestNone() {
        LampsListen x = Check.on("lamp 0 10 0 0;lamp 0 10 0 0;lamp 0 0 0 1;");
        C.due("never alone", x.fewest(0, 1, 1, NONE), NONE);
        C.due("never alone", x.fewest(0, 1, 1, 0), NONE);
        C.due("together", x.fewest(0, 3, 1, NONE), 1);
        C.due("none goes out", x.fewest(3, 0, 1, NONE), NONE);
        C.due("none goes out", x.fewest(4, 3, 1, NONE), NONE);
        C.due("ear 0", x.fewest(0, 4, 1, 0), 0);
        x.weather(0, 1);
        C.due("ear -1", x.fewest(0, 4, 1, NONE), NONE);
        C.due("ear -1", x.fewest(0, 4, 1, 0), NONE);
    }

    // ---- who, where

    private static void whoBounds() {
        LampsListen x = Check.on("lamp 0 10 0 0;" + "singer 0 1 10 10;".repeat(8));
        C.due("all eight", x.who(1), 255);
        C.due("none of them wakes nothing", x.who(0), 0);
        C.due("no singers", Check.on("lamp 0 10 0 0;").who(1), 0);
        C.due("no singers, nothing", Check.on("lamp 0 10 0 0;").who(0), 0);
        LampsListen y = Check.on("lamp 0 10 0 0;" + "singer 9 1 10 10;".repeat(7) + "singer 0 1 10 10;");
        C.due("the eighth", y.who(1), 128);
        C.due("all but the eighth", y.who(0), 127);
    }

    private static void whoNotes() {
        LampsListen x = Check.on("lamp 5 10 2 1;singer 5 1 0 7;singer 5 1 0 8;singer 5 1 12 63;singer 5 1 13 63;singer 0 5 10 10;singer 0 6 10 10;");
        C.due("by the highest of U to V, by the lowest, as loud as is due", x.who(1), 2 + 4 + 32);
        C.due("nothing", x.who(0), 1 + 2 + 4 + 8 + 16);
        x.weather(0, 1);
        C.due("by frost", x.who(1), 1 + 2 + 32);
        x.weather(0, 0);
        x.file(0, 11);
        C.due("filed", x.who(1), 4 + 8 + 32);
    }

    private static void whoJust() {
        LampsListen x = Check.on("lamp 0 10 1 0;lamp 0 12 1 0;singer 0 1 9 9;singer 0 1 11 11;singer 0 1 9 13;singer 0 1 12 12;");
        C.due("just 0", x.who(1), 1 + 4);
        C.due("just 1", x.who(2), 4 + 8);
        C.due("both", x.who(3), 2 + 4);
        C.due("nothing", x.who(0), 0);
    }

    private static void whereBounds() {
        LampsListen x = Check.on("lamp 0 10 0 0;lamp 49 20 0 0;");
        C.due("loud 0", x.where(1, 0), OUTSIDE);
        C.due("loud 1", x.where(1, 1), 1);
        C.due("loud 1 at the end", x.where(2, 1), 1);
        C.due("loud 49", x.where(1, 49), 49);
        C.due("loud 50", x.where(1, 50), 50);
        C.due("loud 51", x.where(1, 51), OUTSIDE);
        C.due("UNKNOWN goes before OUTSIDE", x.where(4, 0), UNKNOWN);
        C.due("UNKNOWN goes before OUTSIDE", x.where(-1, 51), UNKNOWN);
        for (int far : FAR) {
            C.due("loud " + far, x.where(1, far), OUTSIDE);
        }
    }

    private static void wherePlaces() {
        LampsListen x = Check.on("lamp 24 10 0 0;");
        for (int loud = 1; loud <= 24; loud++) {
            C.due("as loud as " + loud, x.where(1, loud), 2 * loud - 1);
        }
        C.due("up to place 0", x.where(1, 25), 49);
        C.due("up to place 49", x.where(1, 26), 50);
        C.due("nothing, by another note", x.where(0, 50), 50);
        LampsListen y = Check.on("lamp 10 10 1 0;lamp 14 11 0 0;");
        C.due("both", y.where(3, 3), 1);
        C.due("never both", y.where(3, 2), 0);
        C.due("the one by its other note", y.where(1, 3), 5);
        C.due("the other only where the one is not near", y.where(2, 3), 4);
        LampsListen z = Check.on("lamp 0 0 0 0;lamp 9 63 0 0;lamp 20 0 0 1;");
        C.due("note 0", z.where(1, 1), 1);
        C.due("note 63", z.where(2, 1), 1);
        C.due("ear 0", z.where(4, 1), 1);
        z.weather(0, 1);
        C.due("ear -1", z.where(4, 1), 0);
    }

    // ---- filing

    private static void fileBounds() {
        LampsListen x = Check.on("lamp 0 10 0 2;" + "lamp 0 62 0 0;".repeat(9));
        C.due("its own", x.file(0, 10), OUTSIDE);
        C.due("one less", x.file(0, 9), OUTSIDE);
        C.due("one more", x.file(0, 11), 1);
        C.due("its own then", x.file(0, 11), OUTSIDE);
        C.due("what it was", x.file(0, 10), OUTSIDE);
        C.due("64", x.file(9, 64), OUTSIDE);
        C.due("63", x.file(9, 63), 1);
        C.due("63 again", x.file(9, 63), OUTSIDE);
        C.due("64 from 63", x.file(9, 64), OUTSIDE);
        C.due("lamp -1", x.file(-1, 63), UNKNOWN);
        C.due("lamp 10", x.file(10, 63), UNKNOWN);
        C.due("UNKNOWN goes before OUTSIDE", x.file(10, 64), UNKNOWN);
        C.due("UNKNOWN goes before OUTSIDE", x.file(-1, -1), UNKNOWN);
        for (int far : FAR) {
            C.due("to " + far, x.file(0, far), OUTSIDE);
            C.due("lamp " + far, x.file(far, 63), UNKNOWN);
        }
        C.due("as filed", x.lamp(0, 1), 11);
        C.due("the last as filed", x.lamp(9, 1), 63);
        C.due("the others as they were", x.lamp(8, 1), 62);
        x.weather(0, 9);
        C.due("it is the note that counts, not the ear", x.file(0, 11), OUTSIDE);
        C.due("the ear", x.lamp(0, 4), -7);
        C.due("from the lowest to the highest", Check.on("lamp 0 0 0 0;").file(0, 63), 63);
    }

    private static void alone(String quay, int sum, int... notes) {
        LampsListen x = Check.on(quay);
        C.due("alone, " + quay, x.alone(NONE), sum);
        for (int l = 0; l < notes.length; l++) {
            C.due("alone, lamp " + l + " of " + quay, x.alone(l), notes[l]);
        }
        C.due("one more of " + quay, x.alone(notes.length), UNKNOWN);
    }

    private static void aloneBounds() {
        alone("", 0);
        alone("lamp 0 63 9 5;", 0, 63);
        alone(TEN, 0, 0, 7, 14, 21, 28, 35, 42, 49, 56, 63);
        LampsListen x = Check.on(TEN);
        C.due("lamp 9", x.alone(9), 63);
        C.due("lamp 10", x.alone(10), UNKNOWN);
        for (int far : FAR) {
            C.due("lamp " + far, x.alone(far), UNKNOWN);
        }
    }

    private static void aloneHighest() {
        alone("lamp 0 62 0 0;lamp 0 62 0 0;", 1, 62, 63);
        alone("lamp 0 63 0 0;lamp 0 63 0 0;", NONE, NONE, NONE);
        alone("lamp 0 44 9 0;lamp 0 44 9 0;", 19, 44, 63);
        alone("lamp 0 45 9 0;lamp 0 45 9 0;", NONE, NONE, NONE);
        alone("lamp 0 62 0 0;lamp 0 62 0 0;lamp 0 0 0 0;", 1, 62, 63, 0);
        alone("lamp 0 62 0 0;lamp 0 62 0 0;lamp 0 62 0 0;", NONE, NONE, NONE, NONE);
        // One that is far may have the note of the one before it, also the highest.
        alone("lamp 0 63 0 0;lamp 49 63 0 0;", 0, 63, 63);
        // All ten from 0 on, by 7 each: the last is 63.
        alone("lamp 0 0 3 0;".repeat(10), 315, 0, 7, 14, 21, 28, 35, 42, 49, 56, 63);
        alone("lamp 0 1 3 0;".repeat(10), NONE, NONE, NONE, NONE, NONE, NONE, NONE, NONE, NONE, NONE, NONE);
    }

    private static void alonePlaces() {
        int[] louds = {1, 2, 3, 5, 10, 25};
        for (int loud : louds) {
            int reach = 2 * (loud - 1);
            alone("loud " + loud + ";lamp 0 10 0 0;lamp " + reach + " 10 0 0;", 1, 10, 11);
            alone("loud " + loud + ";lamp 0 10 0 0;lamp " + (reach + 1) + " 10 0 0;", 0, 10, 10);
            alone("loud " + loud + ";lamp 49 10 0 0;lamp " + (49 - reach) + " 10 0 0;", 1, 10, 11);
            alone("loud " + loud + ";lamp 49 10 0 0;lamp " + (48 - reach) + " 10 0 0;", 0, 10, 10);
        }
        alone("loud 26;lamp 0 10 0 0;lamp 49 10 0 0;", 1, 10, 11);
    }

    /** Of a sound's notes 0 is the least: what two would hear together below it does not count. */
    private static void aloneLowest() {
        LampsListen x = Check.on("lamp 0 1 0 1;lamp 0 1 0 1;");
        x.weather(0, 1);
        C.due("ears 0: together by note 0", x.alone(NONE), 1);
        x.weather(0, 2);
        C.due("ears -1: by none", x.alone(NONE), 0);
        LampsListen y = Check.on("lamp 0 0 1 1;lamp 0 0 1 1;");
        y.weather(0, 1);
        C.due("ears -1 that hear 0: the other has to be beyond it", y.alone(NONE), 3);
        C.due("its note", y.alone(1), 3);
        y.weather(0, 2);
        C.due("ears -2 that hear -1 at most", y.alone(NONE), 0);
        // Of the notes 63 is the highest: two that would meet above it only are apart.
        alone("lamp 0 54 9 0;lamp 0 63 0 0;", NONE, NONE, NONE);
        alone("lamp 0 53 9 0;lamp 0 63 0 0;", 0, 53, 63);
    }

    private static void aloneOrder() {
        // By rising notes; of like ones the lesser lamp first.
        alone("lamp 0 10 0 0;lamp 0 10 3 0;", 4, 10, 14);
        alone("lamp 0 11 0 0;lamp 0 10 3 0;", 3, 14, 10);
        alone("lamp 0 10 3 0;lamp 0 10 0 0;", 4, 10, 14);
        // Not below the one before it, though it is far from all.
        alone("lamp 0 10 1 0;lamp 0 10 1 0;lamp 49 11 0 0;", 5, 10, 13, 13);
        // Apart from all before it, not from the last one alone.
        alone("lamp 0 10 9 0;lamp 49 11 0 0;lamp 0 12 0 0;", 8, 10, 11, 20);
        // It is the told notes by which they come, not those that they are filed to.
        alone("lamp 0 10 5 0;lamp 0 11 5 0;lamp 0 12 0 0;", 25, 10, 21, 27);
        // By frost the ears are 5 and 8, but it is by notes that they come, and notes that may not be below the one before.
        LampsListen frozen = Check.on("lamp 0 10 3 5;lamp 0 8 0 0;");
        frozen.weather(0, 1);
        C.due("lamp 1 comes first", frozen.alone(NONE), 7);
        C.due("its own note", frozen.alone(1), 8);
        C.due("its ear is 12 then, which does not hear 8", frozen.alone(0), 17);
        LampsListen far = Check.on("lamp 0 10 0 0;lamp 0 10 0 0;lamp 49 10 0 5;");
        far.weather(0, 2);
        C.due("not below the note, though its ear is far below", far.alone(2), 11);
        LampsListen x = Check.on("lamp 0 10 0 0;lamp 0 10 0 0;");
        x.alone(NONE);
        C.due("nothing is filed", x.lamp(1, 1), 10);
        x.file(0, 11);
        C.due("as filed: lamp 1 comes first now", x.alone(NONE), 0);
        x.file(1, 11);
        C.due("as filed", x.alone(1), 12);
    }

    // ---- tuned

    private static void tunedBounds() {
        LampsListen x = Check.on("lamp 0 0 0 0;".repeat(10));
        C.due("u -1", x.tuned(-1, 1, 1, NONE), OUTSIDE);
        C.due("u 0", x.tuned(0, 1, 1, NONE), 0);
        C.due("u 63", x.tuned(63, 1, 1, NONE), 63);
        C.due("u 64", x.tuned(64, 1, 1, NONE), OUTSIDE);
        C.due("step 0", x.tuned(0, 0, 1, NONE), OUTSIDE);
        C.due("step 1", x.tuned(0, 1, 2, NONE), 1);
        C.due("step 9", x.tuned(0, 9, 2, NONE), 9);
        C.due("step 10", x.tuned(0, 10, 1, NONE), OUTSIDE);
        C.due("n 0", x.tuned(0, 1, 0, NONE), OUTSIDE);
        C.due("n 1", x.tuned(5, 1, 1, NONE), 5);
        C.due("n 10", x.tuned(0, 1, 10, NONE), 45);
        C.due("n 11", x.tuned(0, 1, 11, NONE), OUTSIDE);
        for (int far : FAR) {
            C.due("u " + far, x.tuned(far, 1, 1, NONE), OUTSIDE);
            C.due("step " + far, x.tuned(0, far, 1, NONE), OUTSIDE);
            C.due("n " + far, x.tuned(0, 1, far, NONE), OUTSIDE);
            C.due("j " + far, x.tuned(0, 1, 1, far), NONE);
        }
        C.due("j -1 is the sum", x.tuned(0, 7, 10, -1), 315);
        for (int j = 0; j < 10; j++) {
            C.due("j " + j, x.tuned(0, 7, 10, j), j);
        }
        C.due("j 10", x.tuned(0, 7, 10, 10), NONE);
        C.due("j 1 of one", x.tuned(0, 7, 1, 1), NONE);
        LampsListen y = Check.on("lamp 0 10 0 0;lamp 0 12 0 0;lamp 0 14 0 0;");
        C.due("all three", y.tuned(10, 2, 3, 2), 2);
        C.due("no third of two, though there is a lamp", y.tuned(10, 2, 2, 2), NONE);
    }

    private static void tunedNot() {
        LampsListen x = Check.on("lamp 0 0 0 0;".repeat(10));
        C.due("the last is 63", x.tuned(54, 1, 10, NONE), 585);
        C.due("the last is 64", x.tuned(55, 1, 10, NONE), NOT);
        C.due("the last is 63 by 9", x.tuned(0, 9, 8, NONE), 252);
        C.due("the last is 64 by 9", x.tuned(1, 9, 8, NONE), NOT);
        C.due("the last is 72", x.tuned(0, 9, 9, NONE), NOT);
        C.due("63 and 64", x.tuned(63, 1, 2, NONE), NOT);
        C.due("whichever j", x.tuned(63, 1, 2, 0), NOT);
        C.due("OUTSIDE goes before NOT", x.tuned(64, 9, 10, NONE), OUTSIDE);
        C.due("OUTSIDE goes before NOT", x.tuned(63, 10, 10, NONE), OUTSIDE);
        C.due("OUTSIDE goes before NOT", x.tuned(63, 9, 11, NONE), OUTSIDE);
        for (int lamps = 0; lamps < 10; lamps++) {
            LampsListen y = Check.on("lamp 0 0 0 0;".repeat(lamps));
            if (lamps > 0) {
                C.due("as many as there are", y.tuned(1, 1, lamps, NONE), lamps * (lamps + 1) / 2);
            }
            C.due("one more than there are", y.tuned(1, 1, lamps + 1, NONE), NOT);
            C.due("n 11 with " + lamps, y.tuned(1, 1, 11, NONE), OUTSIDE);
        }
    }

    private static void tunedFiled() {
        LampsListen x = Check.on("lamp 0 5 0 1;lamp 0 9 0 0;");
        C.due("below it", x.tuned(4, 1, 1, NONE), NONE);
        C.due("below it", x.tuned(4, 1, 1, 0), NONE);
        C.due("its own", x.tuned(5, 1, 1, NONE), 0);
        C.due("its own", x.tuned(5, 1, 1, 0), 0);
        C.due("above it", x.tuned(6, 1, 1, NONE), 1);
        C.due("one of two is too high", x.tuned(7, 1, 2, NONE), NONE);
        C.due("one of two is too high", x.tuned(7, 1, 2, 0), NONE);
        C.due("just as high", x.tuned(8, 1, 2, NONE), 3);
        C.due("the lower one", x.tuned(8, 1, 2, 0), 0);
        C.due("the higher one", x.tuned(8, 1, 2, 1), 1);
        x.weather(0, 3);
        C.due("notes count, not ears", x.tuned(4, 1, 1, NONE), NONE);
        C.due("nothing is filed by asking", x.lamp(0, 1), 5);
        x.file(0, 8);
        C.due("as filed", x.tuned(5, 1, 1, NONE), NONE);
        C.due("as filed", x.tuned(8, 1, 1, NONE), 0);
    }

    private static void tunedRows() {
        LampsListen x = Check.on("lamp 0 9 0 0;lamp 0 5 0 0;lamp 0 9 0 0;");
        C.due("the least sum, not the lesser lamp", x.tuned(10, 1, 1, 0), 0);
        C.due("the nearest", x.tuned(10, 1, 1, NONE), 1);
        C.due("of 0 and 2 the lesser", x.tuned(9, 1, 1, 0), 0);
        C.due("two", x.tuned(9, 1, 2, NONE), 1);
        C.due("0 first", x.tuned(9, 1, 2, 0), 0);
        C.due("then 2", x.tuned(9, 1, 2, 1), 2);
        C.due("all three", x.tuned(9, 1, 3, NONE), 7);
        C.due("0 first", x.tuned(9, 1, 3, 0), 0);
        C.due("then 1, of like sums", x.tuned(9, 1, 3, 1), 1);
        C.due("then 2", x.tuned(9, 1, 3, 2), 2);
        C.due("only 1 is low enough", x.tuned(8, 1, 3, 0), 1);
        C.due("then 0", x.tuned(8, 1, 3, 1), 0);
        C.due("then 2", x.tuned(8, 1, 3, 2), 2);
    }
}

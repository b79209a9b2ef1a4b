/** Part 2 of the terms, promises 10 to 17: every boundary that a sentence of the document names, from each side. */
public final class EdgesMinutesTest {
    private static final int NONE = LampsListen.NONE, WIND = LampsListen.WIND, HUMMER = LampsListen.HUMMER;
    private static final int UNKNOWN = LampsListen.UNKNOWN, OUTSIDE = LampsListen.OUTSIDE;
    private static final int[] FAR = {Integer.MIN_VALUE, Integer.MIN_VALUE + 1, -2, Integer.MAX_VALUE - 1, Integer.MAX_VALUE};
    private static final String SINGING = "lamp 0 10 0 0;singer 0 1 10 10;singer 0 1 0 63;";

    private static final Check C = new Check("EdgesMinutesTest");

    public static void main(String[] args) {
        weatherBounds();
        ears();
        widths();
        distances();
        wakesBounds();
        humBounds();
        runBounds();
        burnMinutes();
        burnAnew();
        leaders();
        moths();
        mothsFull();
        dim();
        songsOfTheirMinute();
        songsInOrder();
        noWindNoDraw();
        windLoud();
        drawsOfPlaceAndNote();
        seedWrapsAround();
        litBounds();
        darkAll();
        sweepBounds();
        roundOfNone();
        roundReach();
        roundNotes();
        roundOrder();
        roundLongest();
        roundBounds();
        roundAsItIsNow();
        lastCall();
        C.end();
    }

    // ---- weather, ear, what a sound wakes

    private static void weatherBounds() {
        LampsListen x = Check.on("lamp 0 10 0 1;");
        C.due("frost 0 at first", x.told(11), 0);
        C.due("wind 0 at first", x.told(12), 0);
        C.due("frost -1", x.weather(0, -1), OUTSIDE);
        C.due("frost 0", x.weather(0, 0), 0);
        C.due("frost 9", x.weather(0, 9), 0);
        C.due("frost 10", x.weather(0, 10), OUTSIDE);
        C.due("frost stays 9", x.told(11), 9);
        C.due("wind -1", x.weather(1, -1), OUTSIDE);
        C.due("wind 0", x.weather(1, 0), 0);
        C.due("wind 50", x.weather(1, 50), 0);
        C.due("wind 51", x.weather(1, 51), OUTSIDE);
        C.due("wind stays 50", x.told(12), 50);
        C.due("wind 10 is no frost", x.weather(1, 10), 50);
        C.due("what -1", x.weather(-1, 0), OUTSIDE);
        C.due("what 2", x.weather(2, 0), OUTSIDE);
        for (int far : FAR) {
            C.due("frost " + far, x.weather(0, far), OUTSIDE);
            C.due("wind " + far, x.weather(1, far), OUTSIDE);
            C.due("what " + far, x.weather(far, 0), OUTSIDE);
        }
        C.due("frost stays", x.weather(0, 0), 9);
        C.due("wind stays", x.weather(1, 0), 10);
    }

    private static void ears() {
        LampsListen x = Check.on("lamp 0 0 0 5;lamp 0 63 0 5;lamp 0 63 0 0;");
        int[] low = {0, -5, -45};
        int[] high = {63, 58, 18};
        int[] frosts = {0, 1, 9};
        for (int k = 0; k < 3; k++) {
            x.weather(0, frosts[k]);
            C.due("ear of note 0 by frost " + frosts[k], x.lamp(0, 4), low[k]);
            C.due("ear of note 63 by frost " + frosts[k], x.lamp(1, 4), high[k]);
            C.due("ear that is not flat by frost " + frosts[k], x.lamp(2, 4), 63);
            C.due("the note stays", x.lamp(1, 1), 63);
        }
    }

    private static void widths() {
        for (int width = 0; width <= 9; width++) {
            LampsListen x = Check.on("lamp 0 30 " + width + " 1;");
            for (int frost = 0; frost <= 9; frost += 9) {
                x.weather(0, frost);
                int ear = 30 - frost;
                C.due("ear", x.wakes(0, ear, 1), 1);
                C.due("width " + width + " above", x.wakes(0, ear + width, 1), 1);
                C.due("one more above " + width, x.wakes(0, ear + width + 1, 1), 0);
                C.due("width " + width + " below", x.wakes(0, ear - width, 1), 1);
                C.due("one more below " + width, x.wakes(0, ear - width - 1, 1), 0);
            }
        }
        // An ear below all notes hears by its width alone.
        LampsListen y = Check.on("lamp 0 6 4 5;lamp 0 6 3 5;");
        y.weather(0, 2);
        C.due("ear -4", y.lamp(0, 4), -4);
        C.due("4 from -4 is 0", y.wakes(0, 0, 1), 1);
        C.due("no more than 4", y.wakes(0, 1, 1), 0);
        LampsListen z = Check.on("lamp 0 63 0 0;lamp 0 54 9 0;lamp 0 53 9 0;lamp 0 0 0 0;");
        C.due("note 63", z.wakes(0, 63, 1), 3);
        C.due("note 0", z.wakes(0, 0, 1), 8);
    }

    private static void distances() {
        LampsListen x = Check.on("lamp 25 10 0 0;");
        for (int loud = 1; loud <= 25; loud++) {
            C.due("nearer than " + loud, x.wakes(25 - loud + 1, 10, loud), 1);
            C.due("as far as " + loud, x.wakes(25 - loud, 10, loud), 0);
            if (25 + loud <= 49) {
                C.due("nearer than " + loud + ", on", x.wakes(25 + loud - 1, 10, loud), 1);
                C.due("as far as " + loud + ", on", x.wakes(25 + loud, 10, loud), 0);
            }
        }
        LampsListen y = Check.on("lamp 0 10 0 0;lamp 49 10 0 0;");
        C.due("50 reaches all", y.wakes(0, 10, 50), 3);
        C.due("49 does not", y.wakes(0, 10, 49), 1);
        C.due("50 from the other end", y.wakes(49, 10, 50), 3);
        C.due("49 from the other end", y.wakes(49, 10, 49), 2);
        C.due("1 is its own place", y.wakes(49, 10, 1), 2);
        C.due("1 and a place aside", y.wakes(48, 10, 1), 0);
    }

    private static void wakesBounds() {
        LampsListen x = Check.on("lamp 0 0 9 0;lamp 49 63 9 0;");
        C.due("place -1", x.wakes(-1, 0, 1), OUTSIDE);
        C.due("place 0", x.wakes(0, 0, 1), 1);
        C.due("place 49", x.wakes(49, 63, 1), 2);
        C.due("place 50", x.wakes(50, 63, 50), OUTSIDE);
        C.due("note -1", x.wakes(0, -1, 1), OUTSIDE);
        C.due("note 0", x.wakes(0, 0, 1), 1);
        C.due("note 63", x.wakes(49, 63, 1), 2);
        C.due("note 64", x.wakes(49, 64, 1), OUTSIDE);
        C.due("loud 0", x.wakes(0, 0, 0), OUTSIDE);
        C.due("loud 1", x.wakes(0, 0, 1), 1);
        C.due("loud 50", x.wakes(0, 63, 50), 2);
        C.due("loud 51", x.wakes(0, 63, 51), OUTSIDE);
        for (int far : FAR) {
            C.due("place " + far, x.wakes(far, 0, 1), OUTSIDE);
            C.due("note " + far, x.wakes(0, far, 1), OUTSIDE);
            C.due("loud " + far, x.wakes(0, 0, far), OUTSIDE);
        }
        C.due("nothing burns by asking", x.lit(0), 0);
        C.due("all ten", Check.on("lamp 0 0 0 0;".repeat(10)).wakes(0, 0, 1), 1023);
    }

    private static void humBounds() {
        LampsListen x = Check.on("lamp 0 0 9 0;lamp 49 63 9 0;loud 1;");
        C.due("place -1", x.hum(-1, 0), OUTSIDE);
        C.due("place 50", x.hum(50, 63), OUTSIDE);
        C.due("note -1", x.hum(0, -1), OUTSIDE);
        C.due("note 64", x.hum(49, 64), OUTSIDE);
        for (int far : FAR) {
            C.due("place " + far, x.hum(far, 0), OUTSIDE);
            C.due("note " + far, x.hum(0, far), OUTSIDE);
        }
        C.due("none burns by what was refused", x.lit(0), 0);
        C.due("none was led", x.lamp(0, 7), NONE);
        C.due("place 0, note 0", x.hum(0, 0), 1);
        C.due("place 49, note 63", x.hum(49, 63), 2);
        C.due("a sound that none hears", x.hum(20, 30), 0);
        C.due("both burn", x.lit(0), 3);
        for (int loud = 1; loud <= 49; loud++) {
            LampsListen y = Check.on("lamp 0 10 0 0;loud " + loud + ";");
            C.due("as far as it hums loud " + loud, y.hum(loud, 10), 0);
            C.due("nearer than it hums loud " + loud, y.hum(loud - 1, 10), 1);
        }
        C.due("50 from end to end", Check.on("lamp 0 10 0 0;loud 50;").hum(49, 10), 1);
        C.due("untold 5", Check.on("lamp 0 10 0 0;").hum(4, 10), 1);
        C.due("untold 5", Check.on("lamp 0 10 0 0;").hum(5, 10), 0);
    }

    // ---- minutes

    private static void runBounds() {
        LampsListen x = Check.on("lamp 0 10 0 0;burn 99;");
        x.hum(0, 10);
        C.due("run 0", x.run(0), OUTSIDE);
        C.due("run -1", x.run(-1), OUTSIDE);
        C.due("run 301", x.run(301), OUTSIDE);
        for (int far : FAR) {
            C.due("run " + far, x.run(far), OUTSIDE);
        }
        C.due("no minute went by", x.told(10), 0);
        C.due("it burns as long", x.lamp(0, 5), 99);
        C.due("run 1", x.run(1), 1);
        C.due("minute 1", x.told(10), 1);
        C.due("run 300", x.run(300), 0);
        C.due("minute 301", x.told(10), 301);
        for (int k = 0; k < 20; k++) {
            x.run(300);
        }
        C.due("minutes have no end", x.told(10), 6301);
    }

    private static void burnMinutes() {
        int[] burns = {1, 2, 20, 99};
        for (int burn : burns) {
            LampsListen x = Check.on("lamp 0 10 0 0;moths 99;burn " + burn + ";");
            x.hum(0, 10);
            C.due("burn " + burn, x.lamp(0, 5), burn);
            C.due("burns at once", x.lit(0), 1);
            if (burn > 1) {
                C.due("a minute ahead of " + burn, x.run(burn - 1), 1);
                C.due("one minute left", x.lamp(0, 5), 1);
            }
            C.due("out after " + burn, x.run(1), 0);
            C.due("none left", x.lamp(0, 5), 0);
            C.due("a moth less than minutes", x.lamp(0, 6), burn - 1);
            C.due("out stays out", x.run(1), 0);
            C.due("no minutes below none", x.lamp(0, 5), 0);
            C.due("no moth when it is out", x.lamp(0, 6), burn - 1);
        }
        C.due("untold 20", Check.on("lamp 0 10 0 0;").hum(0, 10), 1);
        LampsListen y = Check.on("lamp 0 10 0 0;");
        y.hum(0, 10);
        C.due("19", y.run(19), 1);
        C.due("20", y.run(1), 0);
        // Songs of a minute burn from that minute on: its end is the first that counts.
        LampsListen z = Check.on(SINGING + "burn 2;");
        Check.night(z, "sing 0 0 10;");
        C.due("one left", z.run(1), 1);
        C.due("none left", z.run(1), 0);
        LampsListen w = Check.on(SINGING + "burn 1;");
        Check.night(w, "sing 0 0 10;");
        C.due("out at its end", w.run(1), 0);
        C.due("but led", w.lamp(0, 7), 0);
    }

    private static void burnAnew() {
        LampsListen x = Check.on("lamp 0 10 0 0;burn 3;");
        x.hum(0, 10);
        x.run(2);
        C.due("one left", x.lamp(0, 5), 1);
        x.hum(0, 10);
        C.due("anew, not added", x.lamp(0, 5), 3);
        x.hum(0, 10);
        C.due("anew, not added", x.lamp(0, 5), 3);
        C.due("moths are not anew", x.lamp(0, 6), 2);
        C.due("a hum that it does not hear", x.hum(0, 11), 0);
        C.due("changes nothing", x.lamp(0, 5), 3);
    }

    private static void leaders() {
        LampsListen x = Check.on("lamp 0 10 0 0;lamp 0 20 0 0;burn 1;singer 0 1 10 10;singer 0 1 10 10;");
        C.due("none yet", x.lamp(0, 7), NONE);
        x.hum(0, 10);
        C.due("the hummer", x.lamp(0, 7), HUMMER);
        x.run(1);
        C.due("also when it is out", x.lamp(0, 7), HUMMER);
        Check.night(x, "sing 1 1 10;sing 2 0 10;sing 3 0 10;sing 3 1 10;");
        x.run(1);
        C.due("the latest", x.lamp(0, 7), 1);
        x.run(1);
        C.due("singer 0 is no NONE", x.lamp(0, 7), 0);
        x.run(1);
        C.due("the later of two songs", x.lamp(0, 7), 1);
        x.hum(0, 10);
        C.due("the hummer again", x.lamp(0, 7), HUMMER);
        C.due("one that was never woken", x.lamp(1, 7), NONE);
        x.dark();
        C.due("none since dark", x.lamp(0, 7), NONE);
        LampsListen y = Check.on("lamp 0 10 0 0;" + "singer 0 1 10 10;".repeat(8));
        Check.night(y, "sing 0 7 10;");
        y.run(1);
        C.due("the eighth singer", y.lamp(0, 7), 7);
    }

    private static void moths() {
        LampsListen x = Check.on("lamp 0 10 0 0;lamp 0 20 0 0;burn 2;");
        x.hum(0, 10);
        C.due("none at first", x.lamp(0, 6), 0);
        x.run(1);
        C.due("at whose end it burns", x.lamp(0, 6), 1);
        x.run(1);
        C.due("at whose end it is out", x.lamp(0, 6), 1);
        C.due("one that is dark", x.lamp(1, 6), 0);
        x.hum(0, 10);
        x.run(1);
        C.due("they are added", x.lamp(0, 6), 2);
    }

    private static void mothsFull() {
        LampsListen x = Check.on("lamp 0 10 0 0;burn 99;moths 99;");
        x.hum(0, 10);
        x.run(50);
        x.hum(0, 10);
        x.run(48);
        C.due("98", x.lamp(0, 6), 98);
        C.due("seen with one less than 99", x.lit(1), 1);
        x.run(1);
        C.due("99", x.lamp(0, 6), 99);
        C.due("dim with 99", x.lit(1), 0);
        x.run(1);
        C.due("99 at most", x.lamp(0, 6), 99);
        C.due("burns", x.lit(0), 1);
        C.due("swept", x.sweep(0), 99);
        x.run(1);
        C.due("from none again", x.lamp(0, 6), 1);
    }

    private static void dim() {
        int[] limits = {1, 2, 30, 99};
        for (int limit : limits) {
            LampsListen x = Check.on("lamp 0 10 0 0;burn 99;moths " + limit + ";");
            x.hum(0, 10);
            if (limit > 1) {
                x.run(limit - 1);
            }
            x.hum(0, 10);
            C.due("one less than " + limit, x.lit(1), 1);
            x.run(1);
            C.due("just " + limit, x.lit(1), 0);
            C.due("it burns", x.lit(0), 1);
            x.sweep(0);
            C.due("swept", x.lit(1), 1);
        }
        LampsListen y = Check.on("lamp 0 10 0 0;burn 99;");
        y.hum(0, 10);
        y.run(29);
        C.due("untold 30: 29", y.lit(1), 1);
        y.run(1);
        C.due("untold 30: 30", y.lit(1), 0);
        y.run(1);
        C.due("more than 30", y.lit(1), 0);
    }

    private static void songsOfTheirMinute() {
        LampsListen x = Check.on(SINGING + "burn 1;");
        Check.night(x, "sing 0 0 10;sing 1 1 11;sing 2 1 10;sing 599 0 10;");
        x.run(1);
        C.due("minute 0", x.lamp(0, 7), 0);
        x.run(1);
        C.due("a note that is not heard", x.lamp(0, 7), 0);
        x.run(1);
        C.due("minute 2", x.lamp(0, 7), 1);
        x.run(296);
        x.run(300);
        C.due("minute 599 is to come", x.told(10), 599);
        C.due("not sung yet", x.lamp(0, 7), 1);
        x.run(1);
        C.due("sung", x.lamp(0, 7), 0);
        x.hum(0, 10);
        x.run(300);
        x.run(300);
        C.due("none are sung after 599", x.lamp(0, 7), HUMMER);
        x.dark();
        x.run(1);
        C.due("a new night's minute 0", x.lamp(0, 7), 0);
        // A song of a minute that is past is not sung; one of the minute that comes next is.
        LampsListen y = Check.on(SINGING);
        y.run(5);
        Check.night(y, "sing 4 0 10;");
        C.due("past", y.run(1), 0);
        y.dark();
        y.run(4);
        C.due("next", y.run(1), 1);
    }

    private static void songsInOrder() {
        LampsListen x = Check.on(SINGING);
        Check.night(x, "sing 0 1 10;sing 0 0 10;");
        x.run(1);
        C.due("0 behind 1", x.lamp(0, 7), 0);
        Check.night(x, "sing 1 0 10;sing 1 1 10;");
        x.run(1);
        C.due("1 behind 0", x.lamp(0, 7), 1);
        // As loud as the singer is, from where the singer is.
        LampsListen y = Check.on("lamp 0 10 0 0;lamp 40 10 0 0;singer 20 20 10 10;singer 20 21 10 10;singer 40 1 10 10;");
        Check.night(y, "sing 0 0 10;sing 1 2 10;sing 2 1 10;");
        C.due("as far as loud", y.run(1), 0);
        C.due("its own place", y.run(1), 2);
        C.due("nearer than loud", y.run(1), 3);
        Check.night(y, "sing3 0 10;".repeat(29) + "sing3 2 10;");
        y.run(1);
        C.due("the thirtieth song", y.lamp(1, 7), 2);
    }

    // ---- wind and draws

    private static long next(long seed) {
        return (seed * 1103515245L + 12345L) % 2147483648L;
    }

    private static void noWindNoDraw() {
        LampsListen x = Check.on("lamp 0 28 0 0;");
        x.run(300);
        C.due("wind 0 draws nothing", x.seed(0), 0);
        x.weather(1, 1);
        x.run(1);
        C.due("wind 1 draws twice", x.seed(0), next(next(0)));
        x.weather(1, 50);
        x.run(1);
        C.due("wind 50 draws twice", x.seed(0), next(next(0)));
        C.due("a hum draws nothing", x.hum(0, 28), 1);
        C.due("a hum draws nothing", x.seed(0), 0);
    }

    private static void windLoud() {
        // By the seed 0 the wind is heard at place 0, note 28.
        int[] places = {0, 1, 48, 49};
        for (int place : places) {
            LampsListen x = Check.on("lamp " + place + " 28 0 0;");
            if (place > 0) {
                x.weather(1, place);
                C.due("as far as loud " + place, x.run(1), 0);
                C.due("not led", x.lamp(0, 7), NONE);
                x.seed(0);
            }
            x.weather(1, place + 1);
            C.due("nearer than loud " + (place + 1), x.run(1), 1);
            C.due("led by the wind", x.lamp(0, 7), WIND);
        }
        LampsListen y = Check.on("lamp 0 28 0 0;singer 0 1 28 28;burn 1;");
        Check.night(y, "sing 0 0 28;");
        y.weather(1, 1);
        C.due("out at the end of its minute", y.run(1), 0);
        C.due("the wind comes behind songs", y.lamp(0, 7), WIND);
    }

    /** The first and the last place, the first and the last note that can be drawn. */
    private static void drawsOfPlaceAndNote() {
        int[][] spots = {{0, 0}, {0, 63}, {49, 0}, {49, 63}};
        for (int[] spot : spots) {
            int seed = seedFor(spot[0], spot[1]);
            LampsListen x = Check.on("lamp 0 0 0 0;lamp 0 63 0 0;lamp 49 0 0 0;lamp 49 63 0 0;");
            x.weather(1, 1);
            x.seed(seed);
            C.due("drawn " + spot[0] + " " + spot[1], x.run(1), spot[0] == 0 ? spot[1] == 0 ? 1 : 2 : spot[1] == 0 ? 4 : 8);
        }
    }

    private static int seedFor(int place, int note) {
        for (int seed = 0; seed < 1000000; seed++) {
            long first = next(seed);
            if (first / 65536 % 50 == place && next(first) / 65536 % 64 == note) {
                return seed;
            }
        }
        throw new IllegalStateException("no seed draws " + place + " " + note);
    }

    private static void seedWrapsAround() {
        int[] seeds = {0, 1, 2, 65535, 65536, 1073741823, 1073741824, 2147483646, 2147483647};
        for (int seed : seeds) {
            LampsListen x = Check.on("lamp 0 28 0 0;");
            x.weather(1, 1);
            x.seed(seed);
            long due = seed;
            for (int k = 0; k < 5; k++) {
                x.run(1);
                due = next(next(due));
                C.due("seed " + seed + " after minute " + k, x.seed((int) due), due);
            }
        }
    }

    // ---- what burns, dark, sweep

    private static void litBounds() {
        LampsListen x = Check.on("lamp 0 0 0 0;".repeat(10));
        C.due("what 0, none", x.lit(0), 0);
        C.due("what 1, none", x.lit(1), 0);
        x.hum(0, 0);
        C.due("what 0, all", x.lit(0), 1023);
        C.due("what 1, all", x.lit(1), 1023);
        C.due("what -1", x.lit(-1), OUTSIDE);
        C.due("what 2", x.lit(2), OUTSIDE);
        for (int far : FAR) {
            C.due("what " + far, x.lit(far), OUTSIDE);
        }
    }

    private static void darkAll() {
        LampsListen x = Check.on("lamp 0 10 0 0;lamp 0 20 0 0;burn 5;moths 1;");
        C.due("minute 0", x.dark(), 0);
        x.hum(0, 10);
        x.run(5);
        x.hum(0, 20);
        x.run(1);
        x.file(0, 12);
        x.weather(0, 3);
        x.weather(1, 4);
        x.seed(99);
        x.signal(1);
        x.log(1);
        C.due("minute 6", x.dark(), 6);
        C.due("minute 0 then", x.told(10), 0);
        for (int l = 0; l < 2; l++) {
            C.due("out", x.lamp(l, 5), 0);
            C.due("no moths", x.lamp(l, 6), 0);
            C.due("no leader", x.lamp(l, 7), NONE);
        }
        C.due("filed stays", x.lamp(0, 1), 12);
        C.due("frost stays", x.told(11), 3);
        C.due("wind stays", x.told(12), 4);
        C.due("signals stay", x.told(4), 1);
        C.due("the log stays", x.told(5), 1);
        C.due("the seed stays", x.seed(0), 99);
    }

    private static void sweepBounds() {
        LampsListen x = Check.on("lamp 0 0 0 0;".repeat(10) + "burn 99;moths 99;");
        x.hum(0, 0);
        x.run(7);
        C.due("lamp -1", x.sweep(-1), UNKNOWN);
        C.due("lamp 10", x.sweep(10), UNKNOWN);
        for (int far : FAR) {
            C.due("lamp " + far, x.sweep(far), UNKNOWN);
        }
        for (int l = 0; l < 10; l++) {
            C.due("as they were", x.lamp(l, 6), 7);
        }
        C.due("lamp 0", x.sweep(0), 7);
        C.due("lamp 9", x.sweep(9), 7);
        C.due("lamp 0 again", x.sweep(0), 0);
        C.due("none but those", x.lamp(1, 6), 7);
        C.due("it burns still", x.lamp(0, 5), 92);
        C.due("its leader stays", x.lamp(0, 7), HUMMER);
    }

    // ---- the round

    private static void steps(String quay, int... due) {
        LampsListen x = Check.on(quay);
        C.due("round of " + quay, x.round(NONE), due.length);
        for (int j = 0; j < due.length; j++) {
            C.due("step " + j + " of " + quay, x.round(j), due[j]);
        }
        C.due("no step more of " + quay, x.round(due.length), NONE);
    }

    private static void roundOfNone() {
        steps("");
        steps("burn 5;");
        steps("lamp 0 10 0 0;", 10);
    }

    /** A lamp nearer than a hum is loud is woken from place 0; one as far as that needs a step. */
    private static void roundReach() {
        for (int loud = 1; loud <= 49; loud++) {
            steps("lamp " + (loud - 1) + " 10 0 0;loud " + loud + ";", 10);
            steps("lamp " + loud + " 10 0 0;loud " + loud + ";", 64, 10);
        }
        steps("lamp 49 10 0 0;loud 50;", 10);
        steps("lamp 0 10 0 0;lamp 8 10 0 0;", 64, 64, 64, 64, 10);
        steps("lamp 0 10 0 0;lamp 9 10 0 0;", 10, 64, 64, 64, 64, 64, 10);
    }

    private static void roundNotes() {
        steps("lamp 0 0 0 0;", 0);
        steps("lamp 0 63 0 0;", 63);
        steps("lamp 0 63 9 0;", 54);
        steps("lamp 0 9 9 0;", 0);
        steps("lamp 0 8 9 0;", 0);
        steps("lamp 0 10 9 0;", 1);
        steps("lamp 0 10 4 0;lamp 0 19 5 0;", 14);
        steps("lamp 0 10 4 0;lamp 0 19 4 0;", 6, 15);
        LampsListen x = Check.on("lamp 0 4 1 5;lamp 0 5 0 5;");
        x.weather(0, 1);
        C.due("ear -1, width 1: by note 0", x.round(NONE), 1);
        C.due("note 0", x.round(0), 0);
        LampsListen y = Check.on("lamp 0 4 0 5;");
        C.due("no frost", y.round(NONE), 1);
        y.weather(0, 1);
        C.due("ear -1, width 0: none", y.round(NONE), NONE);
        C.due("no step", y.round(0), NONE);
        LampsListen z = Check.on("lamp 0 30 0 0;lamp 0 3 1 5;");
        z.weather(0, 1);
        C.due("one of two that cannot be woken", z.round(NONE), NONE);
        C.due("no step", z.round(0), NONE);
    }

    /** Hums by rising note go before on; of like rounds the first. */
    private static void roundOrder() {
        steps("lamp 0 9 0 0;lamp 0 5 0 0;lamp 0 7 0 0;", 5, 7, 9);
        steps("lamp 0 5 0 0;lamp 5 9 0 0;", 5, 64, 9);
        steps("lamp 0 9 0 0;lamp 5 5 0 0;", 9, 64, 5);
        steps("lamp 4 5 0 0;lamp 5 9 0 0;lamp 4 2 0 0;", 2, 5, 64, 9);
        // Both at once from the place at which both are heard; the third one is hummed ahead of going on.
        steps("lamp 0 5 1 0;lamp 5 7 1 0;lamp 0 63 0 0;", 63, 64, 6);
        // One hum less beats the order.
        steps("lamp 0 5 1 0;lamp 5 7 1 0;", 64, 6);
        // A hum that wakes two beats lesser notes that wake one of them.
        steps("lamp 0 5 2 0;lamp 0 9 2 0;", 7);
        steps("lamp 0 5 2 0;lamp 0 9 2 0;lamp 0 1 2 0;", 0, 7);
    }

    private static void roundLongest() {
        StringBuilder s = new StringBuilder("loud 1;");
        int[] due = new int[59];
        for (int k = 0; k < 49; k++) {
            due[k] = 64;
        }
        for (int l = 0; l < 10; l++) {
            s.append("lamp 49 ").append(63 - 7 * l).append(" 0 0;");
            due[58 - l] = 63 - 7 * l;
        }
        steps(s.toString(), due);
        steps(s.toString().replace("lamp 49 63 ", "lamp 0 63 "), with63First(due));
    }

    private static int[] with63First(int[] due) {
        int[] other = new int[due.length];
        other[0] = 63;
        System.arraycopy(due, 0, other, 1, due.length - 1);
        return other;
    }

    private static void roundBounds() {
        LampsListen x = Check.on("lamp 0 10 0 0;lamp 0 20 0 0;");
        C.due("how many", x.round(-1), 2);
        C.due("the first", x.round(0), 10);
        C.due("the last", x.round(1), 20);
        C.due("not so many", x.round(2), NONE);
        for (int far : FAR) {
            C.due("step " + far, x.round(far), NONE);
        }
        LampsListen y = Check.on("lamp 0 0 0 1;");
        y.weather(0, 1);
        C.due("there is none", y.round(-1), NONE);
        for (int far : FAR) {
            C.due("of none, step " + far, y.round(far), NONE);
        }
    }

    /** Whatever changes what lamps hear, changes the round; what burns, does not. */
    private static void roundAsItIsNow() {
        LampsListen x = Check.on("lamp 0 10 0 1;");
        C.due("note 10", x.round(0), 10);
        x.hum(0, 10);
        x.run(3);
        C.due("a dark quay is meant", x.round(0), 10);
        x.weather(0, 4);
        C.due("frost 4", x.round(0), 6);
        C.due("refused", x.weather(0, 10), OUTSIDE);
        C.due("frost 4", x.round(0), 6);
        x.keep(0);
        x.file(0, 20);
        C.due("filed", x.round(0), 16);
        x.goBack(0);
        C.due("as kept", x.round(0), 6);
        C.due("a fault", Check.quay(x, "lamp 0 30 0 0"), -11);
        C.due("as it was", x.round(0), 6);
        Check.quay(x, "lamp 0 30 0 0;");
        C.due("another quay", x.round(0), 30);
        C.due("nothing burns by it", x.lit(0), 0);
        C.due("no minute goes by", x.told(10), 0);
    }

    /** Calls are promised up to the 512th. */
    private static void lastCall() {
        LampsListen x = new LampsListen();
        x.feed(8, Check.packed("lamp 0 1".getBytes(), 0, 8));
        x.feed(7, Check.packed("0 0 0; ".getBytes(), 0, 7));
        x.quay();
        for (int call = 4; call < 512; call++) {
            C.due("call " + call, x.run(300), 0);
        }
        C.due("call 512", x.told(10), 508 * 300);
    }
}

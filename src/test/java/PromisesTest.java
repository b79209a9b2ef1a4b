/** A method a promise: ordinary inputs, the edges that the document names, wrong inputs. */
public final class PromisesTest {
    private static final int NONE = LampsListen.NONE, WIND = LampsListen.WIND, HUMMER = LampsListen.HUMMER;
    private static final int UNKNOWN = LampsListen.UNKNOWN, OUTSIDE = LampsListen.OUTSIDE;
    private static final int NOT = LampsListen.NOT, FULL = LampsListen.FULL;
    private static final String TWO = "lamp 0 10 1 0;lamp 20 20 2 1;burn 3;moths 2;loud 4;singer 1 3 5 12;singer 20 50 0 63;";

    private static final Check C = new Check("PromisesTest");

    public static void main(String[] args) {
        texts();
        minutes();
        promise17Round();
        signals();
        promise26File();
        promise27Alone();
        promise28Tuned();
        promise29Flat();
        promise30LogAnd31Clear();
        promise32Judge();
        promise33Seed();
        promise34KeepAnd35GoBack();
        C.end();
    }

    private static void texts() {
        promise1NewObject();
        promise2Feed();
        promise3Quay();
        promise3QuayFaults();
        promise3QuayStays();
        promise4Night();
        promise5Month();
        promise6Fault();
        promise7Told();
        promise8Lamp();
        promise9Singer();
    }

    private static void minutes() {
        promise10Weather();
        promise11Wakes();
        promise12Hum();
        promise13Run();
        promise13Wind();
        promise13Moths();
        promise14Lit();
        promise15Dark();
        promise16Sweep();
    }

    private static void signals() {
        promise18Signal();
        promise19ForgetAnd20Shows();
        promise21Lured();
        promise22Apart();
        promise23Fewest();
        promise24Who();
        promise25Where();
    }

    private static void promise1NewObject() {
        LampsListen x = new LampsListen();
        int[] due = {0, 0, 0, 0, 0, 0, 0, 20, 30, 5, 0, 0, 0};
        for (int what = 0; what < due.length; what++) {
            C.due("new told " + what, x.told(what), due[what]);
        }
        C.due("new fault", x.fault(), NONE);
        C.due("new lamp", x.lamp(0, 0), UNKNOWN);
        C.due("new singer", x.singer(0, 0), UNKNOWN);
        C.due("new lit", x.lit(0), 0);
        C.due("new run", x.run(300), 0);
        C.due("new round", x.round(NONE), 0);
        C.due("new round's step", x.round(0), NONE);
        C.due("new shows", x.shows(), NONE);
        C.due("new signal of none", x.signal(0), 0);
        C.due("new shows none", x.shows(), 0);
        C.due("new flat", x.flat(0), NONE);
        C.due("new flat days", x.flat(1), 0);
        C.due("new flat day 0", x.flat(2), OUTSIDE);
        C.due("new judge", x.judge(), NONE);
        C.due("new seed", x.seed(7), 0);
        C.due("new goBack", x.goBack(0), NOT);
        C.due("new wakes", x.wakes(0, 0, 50), 0);
        C.due("new alone", x.alone(0), UNKNOWN);
        C.due("new tuned", x.tuned(0, 1, 1, NONE), NOT);
        C.due("new keep", x.keep(1), 1);
        C.due("new goBack", x.goBack(1), 1);
        C.due("night with no singers", Check.night(x, "sing 0 0 0;"), -12);
    }

    private static void promise2Feed() {
        LampsListen x = new LampsListen();
        C.due("feed 0", x.feed(0, 65), OUTSIDE);
        C.due("feed 9", x.feed(9, 65), OUTSIDE);
        C.due("feed -1", x.feed(-1, 65), OUTSIDE);
        C.due("feed lowest four, highest first", x.feed(4, 0x3b3b3b3b6275726eL), 4);
        C.due("feed three", x.feed(3, 0x7fffffff20373bL), 7);
        C.due("quay", x.quay(), 0);
        C.due("burn 7", x.told(7), 7);
        for (int k = 1; k <= 49; k++) {
            C.due("feed eight", x.feed(8, -1L), 8 * k);
        }
        C.due("feed 7", x.feed(7, 0), 399);
        C.due("feed 2 more than fit", x.feed(2, 0), FULL);
        C.due("nothing came", x.told(6), 399);
        C.due("feed 1", x.feed(1, 0), 400);
        C.due("feed behind 400", x.feed(1, 0), FULL);
        C.due("feed 9 behind 400", x.feed(9, 0), OUTSIDE);
        C.due("a byte 255 cannot stand", x.quay(), -11);
        C.due("at 0", x.fault(), 0);
        C.due("empty again", x.feed(1, 32), 1);
    }

    private static void promise3Quay() {
        LampsListen x = new LampsListen();
        C.due("two lamps", Check.quay(x, TWO), 2);
        C.due("text is empty", x.told(6), 0);
        C.due("burn", x.told(7), 3);
        C.due("moths", x.told(8), 2);
        C.due("loud", x.told(9), 4);
        C.due("no blanks but where needed", Check.quay(x, "lamp49 63 9 5;loud50;burn99;moths99;"), 1);
        C.due("place 49", x.lamp(0, 0), 49);
        C.due("note 63", x.lamp(0, 1), 63);
        C.due("many blanks", Check.quay(x, "  lamp   007 0  00 000  ;  singer 0 1 0 63 ; "), 1);
        C.due("007", x.lamp(0, 0), 7);
        C.due("untold burn", x.told(7), 20);
        C.due("untold moths", x.told(8), 30);
        C.due("untold loud", x.told(9), 5);
        C.due("ten lamps", Check.quay(x, "lamp 0 0 0 0;".repeat(10)), 10);
        C.due("eight singers", Check.quay(x, "singer 0 1 0 0;".repeat(8)), 0);
        C.due("eight are told", x.told(1), 8);
        C.due("blanks alone", Check.quay(x, "   "), 0);
        C.due("no fault", x.fault(), NONE);
        C.due("no singers left", x.told(1), 0);
        C.due("one with nothing", x.quay(), 0);
    }

    private static void quayFault(String text, int number, int place) {
        LampsListen x = Check.on(TWO);
        C.due("quay of '" + text + "'", Check.quay(x, text), -10 - number);
        C.due("fault of '" + text + "'", x.fault(), place);
        C.due("text after '" + text + "'", x.told(6), 0);
        C.due("lamps after '" + text + "'", x.told(0), 2);
        C.due("burn after '" + text + "'", x.told(7), 3);
    }

    private static void promise3QuayFaults() {
        quayFault("lam 3 4 5 0;", 1, 0);
        quayFault(" lamps 3 4 5 0;", 1, 1);
        quayFault("la mp 3 4 5 0;", 1, 0);
        quayFault("Lamp 3 4 5 0;", 1, 0);
        quayFault("lampX 3 4 5 0;", 1, 4);
        quayFault("lamp", 1, 4);
        quayFault("lamp 3  ", 1, 8);
        quayFault("lamp 3 4 5;", 1, 10);
        quayFault("lamp 3 4 5 0 0;", 1, 13);
        quayFault("lamp 3 4 lamp 5 0;", 1, 9);
        quayFault("lamp 3 4 5 0", 1, 12);
        quayFault("lamp -3 4 5 0;", 1, 5);
        quayFault("lamp 3\t4 5 0;", 1, 6);
        quayFault("lamp 3 4 5 0;;", 1, 13);
        quayFault(";", 1, 0);
        quayFault("7;", 1, 0);
        quayFault("sing 0 0 0;", 1, 0);
        quayFault("frost 0;", 1, 0);
        quayFault("burn 5;lamp 3 4 5 0;lam", 1, 20);
        quayFault("lamp 50 4 5 0;", 2, 5);
        quayFault("lamp 49 64 5 0;", 2, 8);
        quayFault("lamp 49 63 10 0;", 2, 11);
        quayFault("lamp 49 63 9 6;", 2, 13);
        quayFault("lamp 0003 4 5 0;", 2, 5);
        quayFault("lamp 4294967297 4 5 0;", 2, 5);
        quayFault("lamp 3 4 5 0 0001;", 1, 13);
        quayFault("burn 0;", 2, 5);
        quayFault("burn 100;", 2, 5);
        quayFault("moths 0;", 2, 6);
        quayFault("moths 100;", 2, 6);
        quayFault("loud 0;", 2, 5);
        quayFault("loud 51;", 2, 5);
        quayFault("singer 50 1 0 0;", 2, 7);
        quayFault("singer 0 0 0 0;", 2, 9);
        quayFault("singer 0 51 0 0;", 2, 9);
        quayFault("singer 0 1 64 0;", 2, 11);
        quayFault("singer 0 1 5 4;", 2, 13);
        quayFault("singer 0 1 5 64;", 2, 13);
        quayFault("burn 5;burn", 3, 7);
        quayFault("moths 5; moths 5;", 3, 9);
        quayFault("loud 5;loud 99;", 3, 7);
        quayFault("lamp 0 0 0 0;".repeat(10) + "lamp 99", 3, 130);
        quayFault("singer 0 1 0 0;".repeat(8) + "singer;", 3, 120);
        quayFault("lamp 0 0 0 0;".repeat(10) + "lamps", 1, 130);
    }

    private static void promise3QuayStays() {
        LampsListen x = Check.on(TWO);
        Check.night(x, "sing 0 0 10;");
        Check.month(x, "frost 1;frost 2;");
        x.signal(1);
        x.log(1);
        x.weather(0, 1);
        x.weather(1, 9);
        x.seed(77);
        x.hum(0, 10);
        x.file(0, 12);
        x.keep(0);
        x.keep(1);
        x.weather(1, 0);
        x.run(2);
        x.weather(1, 9);
        C.due("a faulty one", Check.quay(x, "lamp"), -11);
        int[] before = {2, 2, 1, 2, 1, 1, 0, 3, 2, 4, 2, 1, 9};
        for (int what = 0; what < before.length; what++) {
            C.due("as it was: told " + what, x.told(what), before[what]);
        }
        C.due("as filed", x.lamp(0, 1), 12);
        C.due("it burns", x.lit(0), 1);
        C.due("a new quay", Check.quay(x, "lamp 0 10 1 0;"), 1);
        int[] after = {1, 0, 0, 2, 0, 0, 0, 20, 30, 5, 0, 0, 0};
        for (int what = 0; what < after.length; what++) {
            C.due("after a new quay: told " + what, x.told(what), after[what]);
        }
        C.due("its own note", x.lamp(0, 1), 10);
        C.due("dark", x.lit(0), 0);
        C.due("no moths", x.lamp(0, 6), 0);
        C.due("no leader", x.lamp(0, 7), NONE);
        C.due("image 0 is gone", x.goBack(0), NOT);
        C.due("image 1 is gone", x.goBack(1), NOT);
        C.due("the seed stays", x.seed(0), 77);
    }

    private static void nightFault(String text, int number, int place) {
        LampsListen x = Check.on(TWO);
        Check.night(x, "sing 0 0 10;sing 1 0 10;");
        C.due("night of '" + text + "'", Check.night(x, text), -10 - number);
        C.due("fault of '" + text + "'", x.fault(), place);
        C.due("text after '" + text + "'", x.told(6), 0);
        C.due("songs after '" + text + "'", x.told(2), 2);
    }

    private static void promise4Night() {
        LampsListen x = Check.on(TWO);
        C.due("songs", Check.night(x, "sing 0 0 5;sing 0 0 12; sing599 1 63 ;"), 3);
        C.due("told", x.told(2), 3);
        C.due("no fault", x.fault(), NONE);
        C.due("thirty", Check.night(x, "sing 0 0 5;".repeat(30)), 30);
        C.due("none", x.night(), 0);
        C.due("none are told", x.told(2), 0);
        nightFault("song 0 0 5;", 1, 0);
        nightFault("lamp 0 0 0 0;", 1, 0);
        nightFault("sing 0 0;", 1, 8);
        nightFault("sing 0 0 5", 1, 10);
        nightFault("sing 600 0 5;", 2, 5);
        nightFault("sing 0 2 5;", 2, 7);
        nightFault("sing 0 0 4;", 2, 9);
        nightFault("sing 0 0 13;", 2, 9);
        nightFault("sing 5 0 5;sing 0004 0 5;", 2, 16);
        nightFault("sing 0 0 5;".repeat(30) + "sing", 3, 330);
        nightFault("sing 0 0 5;".repeat(30) + "singer", 1, 330);
        nightFault("sing 9 0 5;sing 8 9 9;", 4, 16);
        nightFault("sing 0 0 5;sing 9 0 5;sing 8 0 5;", 4, 27);
        // Those of minutes that are past are not sung any more.
        LampsListen y = Check.on(TWO);
        y.run(1);
        Check.night(y, "sing 0 0 10;sing 2 0 10;");
        C.due("minute 1", y.run(1), 0);
        C.due("minute 2", y.run(1), 1);
    }

    private static void promise5Month() {
        LampsListen x = new LampsListen();
        C.due("days", Check.month(x, "frost 0;frost9;  frost 009 ;"), 3);
        C.due("told", x.told(3), 3);
        C.due("days in 200 bytes", Check.month(x, "frost0;".repeat(28) + "    "), 28);
        Check.tell(x, "frost0;".repeat(28) + "     ");
        C.due("201 bytes", x.month(), NOT);
        C.due("the text stays", x.told(6), 201);
        C.due("days stay", x.told(3), 28);
        C.due("not a night", x.night(), -11);
        C.due("out of bounds", Check.month(x, "frost 1;frost 10;"), -12);
        C.due("at", x.fault(), 14);
        C.due("not a word", Check.month(x, "frost 1; frosty 1;"), -11);
        C.due("at", x.fault(), 9);
        C.due("the end", Check.month(x, "frost 1"), -11);
        C.due("at", x.fault(), 7);
        C.due("days stay", x.told(3), 28);
        C.due("none", x.month(), 0);
        C.due("none are told", x.told(3), 0);
    }

    private static void promise6Fault() {
        LampsListen x = new LampsListen();
        Check.night(x, "     ?");
        C.due("fault of a night", x.fault(), 5);
        Check.tell(x, " ".repeat(201));
        C.due("too long", x.month(), NOT);
        C.due("NOT changes no fault", x.fault(), 5);
        C.due("blanks", x.quay(), 0);
        C.due("no fault", x.fault(), NONE);
        Check.month(x, "f");
        C.due("fault of a month", x.fault(), 0);
        x.feed(1, 'x');
        C.due("feeding changes none", x.fault(), 0);
        x.quay();
        x.quay();
        C.due("the latest had none", x.fault(), NONE);
    }

    private static void promise7Told() {
        LampsListen x = Check.on(TWO);
        Check.night(x, "sing 0 0 5;sing 0 0 6;sing 0 0 7;");
        Check.month(x, "frost 1;frost 2;frost 3;frost 4;");
        for (int k = 0; k < 6; k++) {
            x.log(k & 3);
            x.signal(k & 3);
        }
        x.feed(7, 0);
        x.run(10);
        x.weather(0, 5);
        x.weather(1, 13);
        int[] due = {2, 2, 3, 4, 4, 6, 7, 3, 2, 4, 10, 5, 13};
        for (int what = 0; what < due.length; what++) {
            C.due("told " + what, x.told(what), due[what]);
        }
        C.due("told -1", x.told(-1), OUTSIDE);
        C.due("told 13", x.told(13), OUTSIDE);
        C.due("told least", x.told(Integer.MIN_VALUE), OUTSIDE);
    }

    private static void promise8Lamp() {
        LampsListen x = Check.on("lamp 3 1 7 5;lamp 9 20 2 1;burn 4;");
        x.weather(0, 9);
        x.hum(9, 11);
        x.run(1);
        int[] first = {3, 1, 7, 5, -44, 0, 0, NONE};
        int[] second = {9, 20, 2, 1, 11, 3, 1, HUMMER};
        for (int what = 0; what < 8; what++) {
            C.due("lamp 0 " + what, x.lamp(0, what), first[what]);
            C.due("lamp 1 " + what, x.lamp(1, what), second[what]);
        }
        C.due("lamp 0 -1", x.lamp(0, -1), OUTSIDE);
        C.due("lamp 0 8", x.lamp(0, 8), OUTSIDE);
        C.due("lamp 2", x.lamp(2, 0), UNKNOWN);
        C.due("lamp -1", x.lamp(-1, 0), UNKNOWN);
        C.due("lamp 2 8: unknown first", x.lamp(2, 8), UNKNOWN);
    }

    private static void promise9Singer() {
        LampsListen x = Check.on("singer 3 50 7 9;singer 4 1 0 63;");
        int[] due = {4, 1, 0, 63};
        for (int what = 0; what < 4; what++) {
            C.due("singer 1 " + what, x.singer(1, what), due[what]);
        }
        C.due("singer 0 2", x.singer(0, 2), 7);
        C.due("singer 0 4", x.singer(0, 4), OUTSIDE);
        C.due("singer 0 -1", x.singer(0, -1), OUTSIDE);
        C.due("singer 2", x.singer(2, 0), UNKNOWN);
        C.due("singer -1 9", x.singer(-1, 9), UNKNOWN);
    }

    private static void promise10Weather() {
        LampsListen x = Check.on(TWO);
        C.due("frost 9", x.weather(0, 9), 0);
        C.due("frost 2", x.weather(0, 2), 9);
        C.due("wind 50", x.weather(1, 50), 0);
        C.due("wind 0", x.weather(1, 0), 50);
        C.due("frost 10", x.weather(0, 10), OUTSIDE);
        C.due("frost -1", x.weather(0, -1), OUTSIDE);
        C.due("wind 51", x.weather(1, 51), OUTSIDE);
        C.due("wind -1", x.weather(1, -1), OUTSIDE);
        C.due("what 2", x.weather(2, 0), OUTSIDE);
        C.due("what -1", x.weather(-1, 0), OUTSIDE);
        C.due("frost is as it was", x.told(11), 2);
        C.due("wind is as it was", x.told(12), 0);
        C.due("ear by frost", x.lamp(1, 4), 18);
    }

    private static void promise11Wakes() {
        LampsListen x = Check.on(TWO);
        C.due("just the width above", x.wakes(0, 11, 1), 1);
        C.due("just the width below", x.wakes(0, 9, 1), 1);
        C.due("beyond the width", x.wakes(0, 12, 50), 0);
        C.due("beyond it below", x.wakes(0, 8, 50), 0);
        C.due("nearer than loud", x.wakes(2, 10, 3), 1);
        C.due("as far as loud", x.wakes(3, 10, 3), 0);
        C.due("from behind", x.wakes(22, 22, 3), 2);
        C.due("from before", x.wakes(18, 18, 3), 2);
        x.weather(0, 9);
        C.due("two at once", x.wakes(10, 11, 11), 3);
        C.due("one is too far", x.wakes(9, 11, 11), 1);
        C.due("they don't burn by it", x.lit(0), 0);
        C.due("place 50", x.wakes(50, 0, 1), OUTSIDE);
        C.due("place -1", x.wakes(-1, 0, 1), OUTSIDE);
        C.due("note 64", x.wakes(0, 64, 1), OUTSIDE);
        C.due("note -1", x.wakes(0, -1, 1), OUTSIDE);
        C.due("loud 0", x.wakes(0, 0, 0), OUTSIDE);
        C.due("loud 51", x.wakes(0, 0, 51), OUTSIDE);
    }

    private static void promise12Hum() {
        LampsListen x = Check.on(TWO);
        C.due("near enough", x.hum(3, 10), 1);
        C.due("burns", x.lamp(0, 5), 3);
        C.due("led by the hummer", x.lamp(0, 7), HUMMER);
        C.due("no minute went by", x.told(10), 0);
        C.due("too far", x.hum(4, 10), 0);
        x.run(2);
        C.due("anew", x.hum(0, 11), 1);
        C.due("for all the minutes", x.lamp(0, 5), 3);
        C.due("moths stay", x.lamp(0, 6), 2);
        C.due("place 50", x.hum(50, 10), OUTSIDE);
        C.due("place -1", x.hum(-1, 10), OUTSIDE);
        C.due("note 64", x.hum(0, 64), OUTSIDE);
        C.due("note -1", x.hum(0, -1), OUTSIDE);
    }

    private static void promise13Run() {
        LampsListen x = Check.on(TWO);
        C.due("run 0", x.run(0), OUTSIDE);
        C.due("run 301", x.run(301), OUTSIDE);
        C.due("no minute went by", x.told(10), 0);
        Check.night(x, "sing 1 0 10;sing 1 1 10;sing 3 1 20;sing 3 0 9;");
        C.due("minute 0", x.run(1), 0);
        C.due("minute 1", x.run(1), 1);
        C.due("the latest song leads", x.lamp(0, 7), 1);
        C.due("a minute less at once", x.lamp(0, 5), 2);
        C.due("minutes 2, 3", x.run(2), 3);
        C.due("another leads", x.lamp(0, 7), 0);
        C.due("who sang leads", x.lamp(1, 7), 1);
        C.due("they burn still", x.run(1), 3);
        C.due("they are out", x.run(1), 0);
        C.due("the leader stays", x.lamp(1, 7), 1);
        C.due("minutes", x.told(10), 6);
        C.due("300", x.run(300), 0);
        C.due("minutes", x.told(10), 306);
        LampsListen y = Check.on("lamp 0 10 0 0;burn 1;singer 0 1 10 10;");
        Check.night(y, "sing 0 0 10;");
        C.due("a minute is none at its end", y.run(1), 0);
        C.due("no moth", y.lamp(0, 6), 0);
        C.due("but it was woken", y.lamp(0, 7), 0);
    }

    private static void promise13Wind() {
        // By the seed 0 the draws are place 0 note 28, place 38 note 37, place 48 note 31.
        LampsListen x = Check.on("lamp 0 28 0 0;lamp 38 37 0 0;lamp 45 31 0 0;lamp 0 28 0 0;singer 0 9 28 28;");
        Check.night(x, "sing 0 0 28;");
        x.weather(1, 1);
        C.due("first draws", x.run(1), 9);
        C.due("wind comes behind songs", x.lamp(0, 7), WIND);
        C.due("two draws", x.seed(1406932606), 1406932606);
        C.due("second draws", x.run(1), 11);
        C.due("not so far", x.run(1), 11);
        C.due("six draws", x.seed(1449466924), 1109335178);
        x.weather(1, 3);
        C.due("as far as loud", x.run(1), 11);
        x.seed(1449466924);
        x.weather(1, 4);
        C.due("nearer", x.run(1), 15);
        int before = x.seed(5);
        C.due("set anew", x.seed(before), 5);
        x.weather(1, 0);
        x.run(1);
        C.due("no wind draws nothing", x.seed(0), before);
    }

    private static void promise13Moths() {
        LampsListen x = Check.on("lamp 0 10 0 0;burn 99;moths 99;");
        x.hum(0, 10);
        x.run(98);
        C.due("98 moths", x.lamp(0, 6), 98);
        C.due("seen", x.lit(1), 1);
        x.hum(0, 10);
        x.run(1);
        C.due("99 moths", x.lamp(0, 6), 99);
        C.due("dim", x.lit(1), 0);
        C.due("burns", x.lit(0), 1);
        x.run(5);
        C.due("no more than 99", x.lamp(0, 6), 99);
        x.run(200);
        C.due("they stay when it is out", x.lamp(0, 6), 99);
    }

    private static void promise14Lit() {
        LampsListen x = Check.on(TWO);
        x.hum(0, 10);
        x.run(1);
        x.hum(20, 20);
        C.due("burn", x.lit(0), 3);
        C.due("seen", x.lit(1), 3);
        x.run(1);
        C.due("burn", x.lit(0), 3);
        C.due("one is dim", x.lit(1), 2);
        C.due("what 2", x.lit(2), OUTSIDE);
        C.due("what -1", x.lit(-1), OUTSIDE);
    }

    private static void promise15Dark() {
        LampsListen x = Check.on(TWO);
        Check.night(x, "sing 0 0 10;");
        x.weather(0, 1);
        x.weather(1, 1);
        x.run(2);
        C.due("which minute", x.dark(), 2);
        C.due("again", x.dark(), 0);
        C.due("out", x.lit(0), 0);
        C.due("no minutes", x.lamp(0, 5), 0);
        C.due("no moths", x.lamp(0, 6), 0);
        C.due("no leader", x.lamp(0, 7), NONE);
        C.due("frost stays", x.told(11), 1);
        C.due("wind stays", x.told(12), 1);
        x.weather(1, 0);
        C.due("songs are sung again", x.run(1), 1);
    }

    private static void promise16Sweep() {
        LampsListen x = Check.on(TWO);
        x.hum(0, 10);
        x.run(2);
        C.due("dim", x.lit(1), 0);
        C.due("sweep", x.sweep(0), 2);
        C.due("seen", x.lit(1), 1);
        C.due("again", x.sweep(0), 0);
        C.due("lamp 2", x.sweep(2), UNKNOWN);
        C.due("lamp -1", x.sweep(-1), UNKNOWN);
    }

    private static void steps(String quay, int... due) {
        LampsListen x = Check.on(quay);
        C.due("round of " + quay, x.round(NONE), due.length);
        for (int j = 0; j < due.length; j++) {
            C.due("step " + j + " of " + quay, x.round(j), due[j]);
        }
        C.due("a step too many of " + quay, x.round(due.length), NONE);
    }

    private static void promise17Round() {
        steps("lamp 0 5 0 0;lamp 0 3 0 0;", 3, 5);
        steps("lamp 10 5 1 0;", 64, 64, 64, 64, 64, 64, 4);
        steps("lamp 0 5 1 0;lamp 1 7 1 0;", 6);
        steps("lamp 0 5 0 0;lamp 6 5 0 0;", 64, 64, 5);
        steps("lamp 6 9 0 0;lamp 0 5 0 0;", 5, 64, 64, 9);
        steps("lamp 2 63 9 0;lamp 3 0 9 0;loud 2;", 64, 54, 64, 0);
        steps("lamp 49 1 0 0;loud 50;", 1);
        steps("loud 7;");
        LampsListen x = Check.on("lamp 0 5 0 1;lamp 0 1 0 1;");
        C.due("below NONE", x.round(-2), NONE);
        C.due("no frost", x.round(0), 1);
        x.hum(0, 5);
        C.due("a dark quay is meant", x.round(NONE), 2);
        x.weather(0, 1);
        C.due("by frost of now", x.round(0), 0);
        C.due("second", x.round(1), 4);
        x.weather(0, 2);
        C.due("an ear below all notes", x.round(NONE), NONE);
        C.due("no step", x.round(0), NONE);
        x.file(1, 4);
        C.due("filed", x.round(0), 2);
        C.due("no more minutes are told", x.told(10), 0);
        C.due("farthest", Check.on("lamp 49 9 0 0;loud 1;").round(NONE), 50);
    }

    private static void promise18Signal() {
        LampsListen x = Check.on("lamp 0 0 0 0;".repeat(4));
        for (int k = 0; k < 8; k++) {
            C.due("signal " + k, x.signal(15 - k), k);
            if (k == 0) {
                C.due("it is one already", x.signal(15), NOT);
                C.due("a lamp too many", x.signal(16), UNKNOWN);
                C.due("below 0", x.signal(-1), UNKNOWN);
            }
        }
        C.due("a ninth", x.signal(0), FULL);
        C.due("a ninth that is one", x.signal(15), NOT);
        C.due("a ninth that is unknown", x.signal(16), UNKNOWN);
        C.due("told", x.told(4), 8);
    }

    private static void promise19ForgetAnd20Shows() {
        LampsListen x = Check.on(TWO);
        C.due("forget none", x.forget(), 0);
        x.signal(3);
        x.signal(1);
        C.due("none shows", x.shows(), NONE);
        x.hum(0, 10);
        C.due("just that one", x.shows(), 1);
        x.hum(20, 20);
        C.due("both", x.shows(), 0);
        x.run(2);
        C.due("dim ones are not seen", x.shows(), NONE);
        x.signal(0);
        C.due("nothing is seen", x.shows(), 2);
        C.due("forget", x.forget(), 3);
        C.due("told", x.told(4), 0);
        C.due("shows", x.shows(), NONE);
        C.due("the first again", x.signal(3), 0);
    }

    private static void promise21Lured() {
        LampsListen x = Check.on("lamp 0 5 1 0;lamp 20 7 1 0;lamp 2 30 0 1;");
        C.due("nothing to do", x.lured(5, 5, 0, 1), 0);
        C.due("one by one", x.lured(0, 3, -1, 1), 2);
        C.due("both at once", x.lured(0, 3, -1, 20), 1);
        C.due("one burns already", x.lured(1, 3, -1, 1), 1);
        C.due("none goes out", x.lured(3, 1, -1, 50), NONE);
        C.due("without that note", x.lured(0, 3, ~(1L << 6), 20), 2);
        C.due("without both notes", x.lured(0, 3, 1L << 6, 5), 2);
        C.due("it would wake another one", x.lured(0, 1, 1L << 6, 50), NONE);
        C.due("but not, if that one burns and may", x.lured(2, 3, 1L << 6, 50), 1);
        C.due("no notes", x.lured(0, 1, 0, 50), NONE);
        C.due("all", x.lured(0, 7, -1, 50), 2);
        x.weather(0, 9);
        C.due("by frost", x.lured(0, 4, 1L << 21, 1), 1);
        C.due("unknown from", x.lured(8, 0, 0, 0), UNKNOWN);
        C.due("unknown to", x.lured(0, -8, 0, 1), UNKNOWN);
        C.due("loud 0", x.lured(0, 0, 0, 0), OUTSIDE);
        C.due("loud 51", x.lured(0, 0, 0, 51), OUTSIDE);
        C.due("nothing burns by it", x.lit(0), 0);
        LampsListen y = Check.on("lamp 0 63 0 0;");
        C.due("the highest note", y.lured(0, 1, 1L << 63, 1), 1);
    }

    private static void promise22Apart() {
        LampsListen x = Check.on("lamp 0 5 0 0;lamp 20 9 0 0;");
        C.due("no signals", x.apart(-1, 5, 9, NONE), 0);
        x.signal(3);
        x.signal(1);
        x.signal(0);
        C.due("d 1", x.apart(-1, 5, 1, NONE), 0);
        C.due("d 2", x.apart(-1, 5, 2, NONE), 2);
        C.due("pair 0", x.apart(-1, 5, 2, 0), 100);
        C.due("pair 1", x.apart(-1, 5, 2, 1), 201);
        C.due("no pair 2", x.apart(-1, 5, 2, 2), NONE);
        C.due("below NONE", x.apart(-1, 5, 2, -2), NONE);
        C.due("d 3", x.apart(-1, 5, 3, NONE), 3);
        C.due("pair 1", x.apart(-1, 5, 3, 1), 200);
        C.due("one note", x.apart(1L << 5, 5, 9, NONE), 1);
        C.due("one note's pair", x.apart(1L << 5, 5, 9, 0), 201);
        C.due("loud 0", x.apart(-1, 0, 2, NONE), OUTSIDE);
        C.due("loud 51", x.apart(-1, 51, 2, NONE), OUTSIDE);
        C.due("d 0", x.apart(-1, 5, 0, NONE), OUTSIDE);
        C.due("d 10", x.apart(-1, 5, 10, NONE), OUTSIDE);
    }

    private static void promise23Fewest() {
        LampsListen x = Check.on("lamp 0 5 1 0;lamp 20 7 1 0;lamp 40 9 1 0;");
        C.due("nothing to do", x.fewest(5, 5, 1, NONE), 0);
        C.due("no note of none", x.fewest(5, 5, 1, 0), NONE);
        C.due("one note at two places", x.fewest(0, 3, 1, NONE), 1);
        C.due("that one", x.fewest(0, 3, 1, 0), 6);
        C.due("the least that does", x.fewest(0, 1, 1, 0), 4);
        C.due("not one that wakes more", x.fewest(0, 2, 50, 0), 7);
        C.due("two notes", x.fewest(0, 7, 1, NONE), 2);
        C.due("the least", x.fewest(0, 7, 1, 0), 4);
        C.due("the other", x.fewest(0, 7, 1, 1), 8);
        C.due("no third", x.fewest(0, 7, 1, 2), NONE);
        C.due("below NONE", x.fewest(0, 7, 1, -2), NONE);
        C.due("some burn already", x.fewest(4, 7, 1, 0), 6);
        C.due("none goes out", x.fewest(4, 3, 1, NONE), NONE);
        C.due("none goes out", x.fewest(4, 3, 1, 0), NONE);
        C.due("unknown", x.fewest(8, 0, 0, 0), UNKNOWN);
        C.due("unknown", x.fewest(0, -1, 1, 0), UNKNOWN);
        C.due("loud 0", x.fewest(0, 1, 0, 0), OUTSIDE);
        C.due("loud 51", x.fewest(0, 1, 51, 0), OUTSIDE);
        LampsListen y = Check.on("lamp 0 5 0 0;lamp 0 5 0 0;");
        C.due("none will do", y.fewest(0, 1, 1, NONE), NONE);
        C.due("none will do", y.fewest(0, 1, 1, 0), NONE);
    }

    private static void promise24Who() {
        LampsListen x = Check.on("lamp 0 5 0 1;lamp 10 7 2 0;singer 0 1 0 63;singer 5 6 5 5;singer 5 5 0 63;singer 5 6 6 63;singer 9 2 6 7;");
        C.due("just lamp 0", x.who(1), 1);
        C.due("both", x.who(3), 2);
        C.due("lamp 1", x.who(2), 8 + 16);
        C.due("nothing", x.who(0), 1 + 4 + 8);
        x.weather(0, 9);
        C.due("by frost", x.who(1), 0);
        C.due("unknown", x.who(4), UNKNOWN);
        C.due("unknown", x.who(-1), UNKNOWN);
    }

    private static void promise25Where() {
        LampsListen x = Check.on("lamp 0 5 0 0;lamp 10 6 1 0;");
        C.due("at the edge", x.where(1, 4), 4);
        C.due("both sides", x.where(2, 4), 7);
        C.due("both lamps", x.where(3, 6), 1);
        C.due("never both", x.where(3, 5), 0);
        C.due("lamp 0 is never alone there", x.where(1, 50), 0);
        C.due("nothing", x.where(0, 50), 50);
        C.due("unknown", x.where(4, 0), UNKNOWN);
        C.due("loud 0", x.where(0, 0), OUTSIDE);
        C.due("loud 51", x.where(0, 51), OUTSIDE);
        LampsListen y = Check.on("lamp 25 0 9 0;lamp 25 10 9 0;lamp 25 20 9 0;lamp 25 30 9 0;lamp 25 40 9 0;lamp 25 50 9 0;lamp 25 60 9 0;");
        C.due("some note is always heard", y.where(0, 50), 0);
        C.due("beyond it is quiet", y.where(0, 20), 50 - 39);
        C.due("by the lowest note alone", Check.on("lamp 7 0 0 0;").where(1, 1), 1);
        C.due("by the highest note alone", Check.on("lamp 7 63 0 0;").where(1, 1), 1);
    }

    private static void promise26File() {
        LampsListen x = Check.on(TWO);
        x.hum(0, 10);
        C.due("by how much", x.file(0, 63), 53);
        C.due("its note", x.lamp(0, 1), 63);
        C.due("it burns still", x.lit(0), 1);
        C.due("no higher", x.file(0, 64), OUTSIDE);
        C.due("64 from below", x.file(1, 64), OUTSIDE);
        C.due("its own", x.file(1, 20), OUTSIDE);
        C.due("lower", x.file(1, 19), OUTSIDE);
        C.due("below 0", x.file(1, -1), OUTSIDE);
        C.due("lamp 2", x.file(2, 64), UNKNOWN);
        C.due("lamp -1", x.file(-1, 30), UNKNOWN);
        C.due("as it was", x.lamp(1, 1), 20);
        C.due("woken by the new one", x.wakes(0, 62, 1), 1);
        C.due("not by the old one", x.wakes(0, 10, 1), 0);
    }

    private static void promise27Alone() {
        LampsListen x = Check.on("lamp 0 10 1 0;lamp 0 10 1 0;lamp 40 10 1 0;lamp 0 3 1 0;");
        C.due("in all", x.alone(NONE), 6);
        C.due("the first stays", x.alone(0), 10);
        C.due("the next is apart", x.alone(1), 13);
        C.due("far, but not below the one before", x.alone(2), 13);
        C.due("the lowest", x.alone(3), 3);
        C.due("lamp 4", x.alone(4), UNKNOWN);
        C.due("lamp -2", x.alone(-2), UNKNOWN);
        C.due("nothing is filed", x.lamp(1, 1), 10);
        LampsListen y = Check.on("lamp 0 60 9 0;lamp 0 60 9 0;");
        C.due("above 63", y.alone(NONE), NONE);
        C.due("above 63", y.alone(0), NONE);
        C.due("above 63, unknown", y.alone(2), UNKNOWN);
        C.due("midway", Check.on("lamp 0 10 0 0;lamp 4 10 0 0;loud 3;").alone(NONE), 1);
        C.due("too far apart", Check.on("lamp 0 10 0 0;lamp 5 10 0 0;loud 3;").alone(NONE), 0);
        LampsListen z = Check.on("lamp 0 0 0 5;lamp 0 0 0 5;");
        C.due("by no frost", z.alone(NONE), 1);
        z.weather(0, 9);
        C.due("ears that hear no note", z.alone(NONE), 0);
        LampsListen w = Check.on("lamp 0 10 0 0;lamp 0 12 0 1;");
        w.weather(0, 2);
        C.due("by frost", w.alone(1), 13);
    }

    private static void promise28Tuned() {
        LampsListen x = Check.on("lamp 0 10 0 0;lamp 0 4 0 0;lamp 0 10 0 0;");
        C.due("the least sum", x.tuned(10, 2, 2, NONE), 2);
        C.due("the lesser lamp first", x.tuned(10, 2, 2, 0), 0);
        C.due("then the other", x.tuned(10, 2, 2, 1), 2);
        C.due("all three", x.tuned(4, 6, 3, NONE), 6);
        C.due("lamp 1 only", x.tuned(4, 6, 3, 0), 1);
        C.due("then 0", x.tuned(4, 6, 3, 1), 0);
        C.due("then 2", x.tuned(4, 6, 3, 2), 2);
        C.due("no fourth", x.tuned(4, 6, 3, 3), NONE);
        C.due("below NONE", x.tuned(4, 6, 3, -2), NONE);
        C.due("like sums: the first row", x.tuned(10, 1, 3, 0), 0);
        C.due("like sums", x.tuned(10, 1, 3, 1), 1);
        C.due("too low", x.tuned(3, 1, 1, NONE), NONE);
        C.due("too low", x.tuned(3, 1, 1, 0), NONE);
        C.due("two below 10", x.tuned(5, 1, 2, NONE), NONE);
        C.due("note 63", x.tuned(45, 9, 3, NONE), 45 + 54 + 63 - 24);
        C.due("note 64", x.tuned(46, 9, 3, NONE), NOT);
        C.due("more than lamps", x.tuned(0, 1, 4, NONE), NOT);
        C.due("u 64", x.tuned(64, 1, 1, NONE), OUTSIDE);
        C.due("u -1", x.tuned(-1, 1, 1, NONE), OUTSIDE);
        C.due("step 0", x.tuned(0, 0, 1, NONE), OUTSIDE);
        C.due("step 10", x.tuned(0, 10, 1, NONE), OUTSIDE);
        C.due("n 0", x.tuned(0, 1, 0, NONE), OUTSIDE);
        C.due("n 11", x.tuned(0, 1, 11, NONE), OUTSIDE);
        C.due("nothing is filed", x.lamp(1, 1), 4);
        LampsListen y = Check.on("lamp 0 10 0 0;lamp 0 12 0 0;lamp 0 14 0 0;");
        C.due("two of three", y.tuned(10, 2, 2, 1), 1);
        C.due("no third, with a lamp to spare", y.tuned(10, 2, 2, 2), NONE);
    }

    private static void promise29Flat() {
        LampsListen x = Check.on("lamp 0 10 0 1;lamp 0 20 0 0;");
        Check.month(x, "frost 0;frost 1;frost 0;frost 2;");
        C.due("first day", x.flat(0), 1);
        C.due("days", x.flat(1), 2);
        C.due("day 0", x.flat(2), 0);
        C.due("day 1", x.flat(3), 1);
        C.due("day 3", x.flat(5), 1);
        C.due("day 4", x.flat(6), OUTSIDE);
        C.due("what -1", x.flat(-1), OUTSIDE);
        C.due("what most", x.flat(Integer.MAX_VALUE), OUTSIDE);
        x.weather(0, 1);
        C.due("steps by frost of now", x.flat(0), 0);
        C.due("days", x.flat(1), 3);
        C.due("day 1", x.flat(3), 0);
        C.due("frost is as it was", x.told(11), 1);
        Check.month(x, "frost 1;");
        C.due("no day", x.flat(0), NONE);
        C.due("no days", x.flat(1), 0);
        LampsListen y = Check.on("lamp 0 0 0 1;");
        y.weather(0, 1);
        C.due("there is no round", y.flat(0), NOT);
        C.due("there is no round", y.flat(1), NOT);
        C.due("no such day", y.flat(2), OUTSIDE);
        Check.month(y, "frost 0;");
        C.due("there is no round", y.flat(2), NOT);
    }

    private static void promise30LogAnd31Clear() {
        LampsListen x = Check.on(TWO);
        C.due("clear none", x.clear(), 0);
        for (int k = 1; k <= 40; k++) {
            C.due("log", x.log(k & 3), k);
        }
        C.due("one more", x.log(0), FULL);
        C.due("one more that is unknown", x.log(4), UNKNOWN);
        C.due("clear", x.clear(), 40);
        C.due("told", x.told(5), 0);
        C.due("unknown", x.log(-1), UNKNOWN);
        C.due("log", x.log(3), 1);
    }

    private static void promise32Judge() {
        LampsListen x = Check.on("lamp 0 10 0 0;burn 4;moths 3;");
        C.due("no entries", x.judge(), NONE);
        x.hum(0, 10);
        x.log(1);
        x.log(1);
        C.due("as it is", x.judge(), NONE);
        x.log(0);
        C.due("dim is not seen", x.judge(), NONE);
        x.log(1);
        x.log(0);
        C.due("the first that is other", x.judge(), 3);
        C.due("nothing went by", x.told(10), 0);
        C.due("nothing went by", x.lamp(0, 5), 4);
        C.due("no moths", x.lamp(0, 6), 0);
        x.run(1);
        C.due("from now on", x.judge(), 1);
        LampsListen y = Check.on("lamp 38 37 0 0;singer 38 1 37 37;");
        y.weather(1, 1);
        y.log(0);
        y.log(1);
        C.due("wind by the seed as it is", y.judge(), NONE);
        C.due("and again", y.judge(), NONE);
        C.due("it stays", y.seed(1), 0);
        C.due("by another seed", y.judge(), 1);
        Check.night(y, "sing 1 0 37;");
        C.due("songs are tried too", y.judge(), NONE);
        y.dark();
        y.run(1);
        C.due("songs of the minutes from now on", y.judge(), 0);
    }

    private static void promise33Seed() {
        LampsListen x = new LampsListen();
        C.due("most", x.seed(2147483647), 0);
        C.due("below 0", x.seed(-1), OUTSIDE);
        C.due("least", x.seed(Integer.MIN_VALUE), OUTSIDE);
        C.due("as it was", x.seed(12), 2147483647);
        x.weather(1, 1);
        x.seed(2147483647);
        x.run(1);
        long first = (2147483647L * 1103515245L + 12345L) % 2147483648L;
        C.due("two draws", x.seed(0), (first * 1103515245L + 12345L) % 2147483648L);
    }

    private static void promise34KeepAnd35GoBack() {
        LampsListen x = Check.on(TWO);
        C.due("keep 2", x.keep(2), UNKNOWN);
        C.due("keep -1", x.keep(-1), UNKNOWN);
        C.due("goBack 2", x.goBack(2), UNKNOWN);
        C.due("goBack -1", x.goBack(-1), UNKNOWN);
        C.due("goBack 1", x.goBack(1), NOT);
        x.hum(0, 10);
        x.run(1);
        x.weather(0, 3);
        x.weather(1, 1);
        x.seed(99);
        x.file(1, 23);
        C.due("keep 1", x.keep(1), 1);
        C.due("0 was not kept", x.goBack(0), NOT);
        C.due("round", x.round(NONE), 19);
        x.signal(1);
        x.log(1);
        x.weather(1, 0);
        x.weather(0, 0);
        x.run(7);
        x.hum(20, 23);
        x.file(0, 40);
        x.file(1, 50);
        x.seed(3);
        C.due("keep 0", x.keep(0), 1);
        C.due("goBack 1", x.goBack(1), 1);
        int[] lamp0 = {0, 10, 1, 0, 10, 2, 1, HUMMER};
        int[] lamp1 = {20, 23, 2, 1, 20, 0, 0, NONE};
        for (int what = 0; what < 8; what++) {
            C.due("lamp 0 " + what, x.lamp(0, what), lamp0[what]);
            C.due("lamp 1 " + what, x.lamp(1, what), lamp1[what]);
        }
        C.due("minute", x.told(10), 1);
        C.due("frost", x.told(11), 3);
        C.due("wind", x.told(12), 1);
        C.due("seed", x.seed(1), 99);
        C.due("signals are not kept", x.told(4), 1);
        C.due("the log is not kept", x.told(5), 1);
        C.due("step by notes as filed", x.round(0), 9);
        C.due("goBack 0", x.goBack(0), 1);
        C.due("the other one", x.lamp(0, 1), 40);
        C.due("its seed", x.seed(0), 3);
        C.due("its minute", x.told(10), 8);
        C.due("step by notes of that one", x.round(0), 39);
        C.due("an image may be used again", x.goBack(1), 1);
        C.due("its seed", x.seed(0), 99);
        C.due("kept anew", x.keep(1), 1);
        x.seed(8);
        x.goBack(1);
        C.due("the newer one", x.seed(0), 0);
    }
}

import java.nio.charset.StandardCharsets;

/** Counts answers that are not as due, and feeds texts. */
final class Check {
    private final String test;
    private int asked;
    private int wrong;

    Check(String test) {
        this.test = test;
    }

    void due(String call, long got, long want) {
        asked++;
        if (got != want) {
            wrong++;
            System.out.println(test + ": " + call + " answered " + got + ", due is " + want);
        }
    }

    void holds(String what, boolean isSo) {
        due(what, isSo ? 1 : 0, 1);
    }

    int wrong() {
        return wrong;
    }

    void end() {
        System.out.println(test + ": " + asked + " asked, " + wrong + " wrong");
        if (wrong != 0) {
            System.exit(1);
        }
    }

    /** One way to tell a text: eight bytes at a time. */
    static void tell(LampsListen x, String text) {
        byte[] bytes = text.getBytes(StandardCharsets.ISO_8859_1);
        for (int from = 0; from < bytes.length; from += 8) {
            int n = Math.min(8, bytes.length - from);
            x.feed(n, packed(bytes, from, n));
        }
    }

    static long packed(byte[] bytes, int from, int n) {
        long packed = 0;
        for (int k = 0; k < n; k++) {
            packed = packed << 8 | bytes[from + k] & 255;
        }
        return packed;
    }

    static int quay(LampsListen x, String text) {
        tell(x, text);
        return x.quay();
    }

    static int night(LampsListen x, String text) {
        tell(x, text);
        return x.night();
    }

    static int month(LampsListen x, String text) {
        tell(x, text);
        return x.month();
    }

    static LampsListen on(String quay) {
        LampsListen x = new LampsListen();
        quay(x, quay);
        return x;
    }
}

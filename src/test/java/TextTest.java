import java.util.Random;

/** Texts, most of them with a slip, the same ones each time, that the class and the model have to read alike. */
public final class TextTest {
    private static final int TEXTS = 60000;
    private static final String SLIPS = "lampburnmothsloudsingerfrost;;;   0123456789-AZ\n\t\0\u00ff`{/:";
    private static final String[] WORDS = {"lamp", "burn", "moths", "loud", "singer", "sing", "frost"};
    private static final int[] NUMBERS = {4, 1, 1, 1, 4, 3, 1};

    private final Random dice;

    private TextTest(int seed) {
        dice = new Random(seed);
    }

    public static void main(String[] args) {
        Check check = new Check("TextTest");
        for (int k = 0; k < TEXTS / 8 && check.wrong() < 20; k++) {
            new TextTest(k).go(check);
        }
        check.end();
    }

    private void go(Check check) {
        LampsListen x = new LampsListen();
        Model m = new Model();
        for (int k = 0; k < 8; k++) {
            int kind = dice.nextInt(3);
            String text = text(kind);
            for (int b = 0; b < text.length(); b++) {
                check.due("feed", x.feed(1, text.charAt(b)), m.feed(1, text.charAt(b)));
            }
            String told = "after '" + text + "' ";
            if (kind == 0) {
                check.due(told + "quay()", x.quay(), m.quay());
            } else if (kind == 1) {
                check.due(told + "night()", x.night(), m.night());
            } else {
                check.due(told + "month()", x.month(), m.month());
            }
            check.due(told + "fault()", x.fault(), m.fault());
            compare(check, told, x, m);
        }
    }

    private static void compare(Check check, String told, LampsListen x, Model m) {
        for (int what = 0; what <= 12; what++) {
            check.due(told + "told " + what, x.told(what), m.told(what));
        }
        for (int l = 0; l < m.told(0); l++) {
            for (int what = 0; what <= 7; what++) {
                check.due(told + "lamp " + l + " " + what, x.lamp(l, what), m.lamp(l, what));
            }
        }
        for (int s = 0; s < m.told(1); s++) {
            for (int what = 0; what <= 3; what++) {
                check.due(told + "singer " + s + " " + what, x.singer(s, what), m.singer(s, what));
            }
        }
        check.due(told + "run 40", x.run(40), m.run(40));
    }

    private String text(int kind) {
        StringBuilder s = new StringBuilder();
        int clauses = dice.nextInt(6) == 0 ? dice.nextInt(40) : dice.nextInt(6);
        int minute = 0;
        for (int k = 0; k < clauses; k++) {
            int word = kind == 0 ? dice.nextInt(8) : kind == 1 ? 5 : 6;
            word = word == 7 || word == 5 && kind == 0 || word == 6 && kind == 0 ? 0 : word;
            minute += dice.nextInt(12) == 0 ? -1 : dice.nextInt(3);
            clause(s, word, Math.max(0, minute));
        }
        if (dice.nextInt(3) > 0) {
            slip(s);
        }
        return s.length() > 400 ? s.substring(0, 400) : s.toString();
    }

    private void clause(StringBuilder s, int word, int minute) {
        s.append(blanks(0)).append(WORDS[word]);
        for (int k = 0; k < NUMBERS[word]; k++) {
            int most = word == 5 && k == 1 ? 2 : dice.nextInt(12) == 0 ? 70 : word == 5 ? 40 : 6;
            int low = word == 4 && k == 3 || word == 4 && k == 1 ? 5 : 0;
            int number = word == 5 && k == 0 ? minute : low + dice.nextInt(most);
            s.append(blanks(k == 0 ? 0 : 1)).append(dice.nextInt(9) == 0 ? "0" : "").append(number);
        }
        s.append(blanks(0)).append(';');
    }

    private String blanks(int least) {
        return " ".repeat(least + (dice.nextInt(5) == 0 ? dice.nextInt(3) : 0));
    }

    private void slip(StringBuilder s) {
        for (int k = dice.nextInt(3); k >= 0 && s.length() > 0; k--) {
            int at = dice.nextInt(s.length());
            char c = SLIPS.charAt(dice.nextInt(SLIPS.length()));
            switch (dice.nextInt(4)) {
                case 0: s.setCharAt(at, c); break;
                case 1: s.insert(at, c); break;
                case 2: s.deleteCharAt(at); break;
                default: s.setLength(at); break;
            }
        }
    }
}

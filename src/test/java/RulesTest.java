import java.nio.file.Files;
import java.nio.file.Path;
import java.util.regex.Matcher;
import java.util.regex.Pattern;

/** The rules of the language as far as a look at the source shows them; FaceTest has rule 1. */
public final class RulesTest {
    private static final String[] FORBIDDEN = {
        "\\bthrow\\b", "\\bthrows\\b", "\\btry\\b", "\\bcatch\\b", "\\bsynchronized\\b", "\\bassert\\b", "->", "::",
        "\\bpackage\\b", "\\bprotected\\b", "\\bvolatile\\b", "\\bnative\\b", "\\bvar\\b", "Exact\\b", "\\bSystem\\.(?!arraycopy)",
        "\\b(?:Integer|Long)\\.[A-Z]", "\\bMath\\.(?!max|min|abs)", "\\bObject\\b", "\\bhashCode\\b", "\\btoString\\b",
        "\"\\s*\\+|\\+\\s*\"", "\\bstatic\\s*\\{", "\\bjava\\.(?!util\\.Arrays;)"};

    public static void main(String[] args) throws Exception {
        Check check = new Check("RulesTest");
        String source = Files.readString(Path.of("src/main/java/LampsListen.java"));
        check.holds("signs 1 to 127 alone", source.chars().allMatch(c -> c > 0 && c < 128));
        String bare = source.replaceAll("(?s)/\\*.*?\\*/", "").replaceAll("//[^\n]*", "");
        for (String word : FORBIDDEN) {
            check.holds("no " + word, !Pattern.compile(word).matcher(bare).find());
        }
        check.holds("some twelve classes", count(bare, "\\bclass\\s+\\w+") <= 12);
        check.holds("static fields are final", !Pattern.compile("\\bstatic\\s+(?!final\\b)[\\w\\[\\]]+\\s+\\w+\\s*[=;]").matcher(bare).find());
        methods(check, bare);
        check.end();
    }

    private static int count(String text, String pattern) {
        int found = 0;
        for (Matcher m = Pattern.compile(pattern).matcher(text); m.find();) {
            found++;
        }
        return found;
    }

    /** A method's head ends in ') {' and its body ends at the brace that stands as far in as the head. */
    private static void methods(Check check, String bare) {
        Matcher m = Pattern.compile("\n( +)[\\w\\[\\] ]*\\b(\\w+)\\(([^()]*)\\) \\{\n(.*?)\n\\1\\}", Pattern.DOTALL).matcher(bare);
        int at = 0;
        int found = 0;
        while (m.find(at)) {
            at = m.start() + 1;
            String name = m.group(2);
            if (name.equals("if") || name.equals("for") || name.equals("while") || name.equals("switch")) {
                continue;
            }
            found++;
            check.holds(name + " is short", m.group(4).split("\n").length <= 60);
            check.holds(name + " takes seven at most", m.group(3).split(",").length <= 7);
        }
        check.holds("methods were found", found > 100);
    }
}

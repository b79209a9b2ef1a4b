import java.net.URL;
import java.net.URLClassLoader;
import java.nio.file.Files;
import java.nio.file.Path;
import java.util.regex.Matcher;
import java.util.regex.Pattern;
import java.util.stream.Stream;
import javax.tools.ToolProvider;

/** README.md's example is compiled as it stands, and each call in it has to answer what is told behind it. */
public final class ReadmeTest {
    private static final Pattern ANSWERED = Pattern.compile("(x\\.\\w+\\(.*\\)); *// (-?\\d+): .*");
    private static final Pattern BLOCK = Pattern.compile("```java\n(.*?)```", Pattern.DOTALL);

    public static void main(String[] args) throws Exception {
        Check check = new Check("ReadmeTest");
        Path folder = Files.createTempDirectory("readme");
        try {
            run(check, folder);
        } finally {
            remove(folder);
        }
        check.end();
    }

    private static void run(Check check, Path folder) throws Exception {
        Path file = folder.resolve("Example.java");
        Files.writeString(file, source(Files.readString(Path.of("README.md"))));
        String classes = System.getProperty("java.class.path");
        int failed = ToolProvider.getSystemJavaCompiler().run(null, null, null, "-cp", classes, "-d", folder.toString(), file.toString());
        check.due("compiling the example", failed, 0);
        if (failed != 0) {
            return;
        }
        URL[] urls = {folder.toUri().toURL()};
        try (URLClassLoader loader = new URLClassLoader(urls, ReadmeTest.class.getClassLoader())) {
            long[][] answers = (long[][]) loader.loadClass("Example").getMethod("answers").invoke(null);
            check.holds("the example has answers", answers.length > 15);
            for (int k = 0; k < answers.length; k++) {
                check.due("answer " + k + " of README.md's example", answers[k][0], answers[k][1]);
            }
        }
    }

    /** A block that begins with 'static' is a method; what is left is the example's lines. */
    private static String source(String page) {
        StringBuilder methods = new StringBuilder();
        StringBuilder lines = new StringBuilder();
        for (Matcher m = BLOCK.matcher(page); m.find();) {
            (m.group(1).startsWith("static") ? methods : lines).append(m.group(1));
        }
        String asked = ANSWERED.matcher(lines).replaceAll("due.add(new long[] {$1, $2});");
        return "public final class Example {\n" + methods + "public static long[][] answers() {\n"
            + "java.util.List<long[]> due = new java.util.ArrayList<>();\n" + asked
            + "return due.toArray(new long[0][]);\n}\n}\n";
    }

    private static void remove(Path folder) throws Exception {
        try (Stream<Path> files = Files.list(folder)) {
            for (Path file : files.toList()) {
                Files.delete(file);
            }
        }
        Files.delete(folder);
    }
}

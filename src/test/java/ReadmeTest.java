import java.io.IOException;
import java.lang.reflect.InvocationTargetException;
import java.net.URI;
import java.net.URL;
import java.net.URLClassLoader;
import java.nio.charset.StandardCharsets;
import java.nio.file.Files;
import java.nio.file.Path;
import java.util.Comparator;
import java.util.List;
import java.util.function.LongBinaryOperator;
import java.util.regex.Matcher;
import java.util.regex.Pattern;
import java.util.stream.Stream;
import javax.tools.JavaCompiler;
import javax.tools.SimpleJavaFileObject;
import javax.tools.ToolProvider;

/** README.md's Java compiles, and each call there answers the number that is said behind it. */
public final class ReadmeTest {
    private static final Pattern BLOCK = Pattern.compile("(?s)```java\n(.*?)```");
    private static final Pattern CALL = Pattern.compile("(?m)^((?:x\\.|load\\()[^;]*?(?:\"[^\"]*\"[^;\"]*?)*); +// (-?\\d+).*$");
    private static final Pattern ANSWER = Pattern.compile("; +// -?\\d");
    private static int calls = 0;
    private static int wrong = 0;

    private static final class Source extends SimpleJavaFileObject {
        private final String text;

        Source(String text) {
            super(URI.create("string:///Shown.java"), Kind.SOURCE);
            this.text = text;
        }

        @Override
        public CharSequence getCharContent(boolean ignoreEncodingErrors) {
            return text;
        }
    }

    public static void main(String[] args) throws Exception {
        String page = Files.readString(Path.of("README.md"), StandardCharsets.UTF_8);
        runShown(shownClass(page));
        long answers = ANSWER.matcher(page).results().count();
        if (calls == 0 || calls != answers) {
            wrong++;
            System.out.println(answers + " answers are told, " + calls + " were looked at");
        }
        System.out.println(calls + " calls, " + wrong + " wrong");
        System.exit(wrong == 0 ? 0 : 1);
    }

    private static String shownClass(String page) {
        StringBuilder helpers = new StringBuilder();
        StringBuilder body = new StringBuilder();
        Matcher m = BLOCK.matcher(page);
        while (m.find()) {
            (m.group(1).startsWith("static ") ? helpers : body).append(m.group(1));
        }
        String checked = CALL.matcher(body).replaceAll("due.applyAsLong($1, $2);");
        return "public final class Shown {\n" + helpers
            + "public static void run(java.util.function.LongBinaryOperator due) {\n" + checked + "}\n}\n";
    }

    private static void runShown(String source) throws Exception {
        Path out = Files.createTempDirectory("readme");
        try {
            JavaCompiler javac = ToolProvider.getSystemJavaCompiler();
            List<String> options = List.of("-d", out.toString(), "-cp", System.getProperty("java.class.path"));
            if (!javac.getTask(null, null, null, options, null, List.of(new Source(source))).call()) {
                wrong++;
                System.out.println(source);
                return;
            }
            try (URLClassLoader loader = new URLClassLoader(new URL[] {out.toUri().toURL()})) {
                LongBinaryOperator due = ReadmeTest::due;
                loader.loadClass("Shown").getMethod("run", LongBinaryOperator.class).invoke(null, due);
            } catch (InvocationTargetException e) {
                wrong++;
                System.out.println("behind " + calls + " calls the page's code threw " + e.getCause());
            }
        } finally {
            drop(out);
        }
    }

    private static long due(long got, long want) {
        calls++;
        if (got != want) {
            wrong++;
            System.out.println("call " + calls + " of the page answered " + got + ", it says " + want);
        }
        return got;
    }

    private static void drop(Path dir) throws IOException {
        try (Stream<Path> all = Files.walk(dir)) {
            for (Path p : (Iterable<Path>) all.sorted(Comparator.reverseOrder())::iterator) {
                Files.delete(p);
            }
        }
    }
}

import java.io.IOException;
import java.net.URI;
import java.nio.file.Files;
import java.nio.file.Path;
import java.util.List;
import java.util.Set;
import java.util.TreeSet;
import java.util.function.BiConsumer;
import java.util.regex.Matcher;
import java.util.regex.Pattern;
import java.util.stream.Stream;
import javax.tools.JavaCompiler;
import javax.tools.JavaFileObject;
import javax.tools.SimpleJavaFileObject;
import javax.tools.ToolProvider;

/** README.md: its examples compile and answer what stands behind them; it names each test that there is. */
public final class ReadmeTest {
    private static final Path README = Path.of("README.md");
    private static final Path TESTS = Path.of("src/test/java");
    private static final Pattern EXAMPLE = Pattern.compile("```java\n(.*?)```", Pattern.DOTALL);
    private static final Pattern ANSWERED = Pattern.compile("(?m)^(x\\.\\w+\\(.*\\)); *// (-?\\d+).*$");
    /** The examples are loaded apart, so they tell their answers to a class that all can see. */
    private static final String TAKES = "(java.util.function.BiConsumer<String, long[]> due) {\n";
    private static final int FEWEST_ANSWERS = 30;

    private final Dues dues = new Dues();
    private String words;
    private int answers;

    public static void main(String[] args) throws Exception {
        ReadmeTest t = new ReadmeTest();
        t.words = Files.readString(README);
        t.examples();
        t.namesTests();
        t.dues.end();
    }

    private void examples() throws Exception {
        dues.about("README.md, the examples");
        StringBuilder source = new StringBuilder("public final class Examples {\n");
        Matcher example = EXAMPLE.matcher(words);
        int many = 0;
        while (example.find()) {
            source.append("public static void example").append(++many).append(TAKES);
            source.append(asked(example.group(1))).append("}\n");
        }
        source.append("}\n");
        dues.holds(many + " examples, " + answers + " answers", many > 0 && answers >= FEWEST_ANSWERS);
        Class<?> made = compiled(source.toString());
        for (int i = 1; made != null && i <= many; i++) {
            BiConsumer<String, long[]> due = (call, both) -> dues.due(call, both[0], both[1]);
            made.getDeclaredMethod("example" + i, BiConsumer.class).invoke(null, due);
        }
    }

    /** Each call with a number behind it is asked whether it answers that number. */
    private String asked(String example) {
        Matcher m = ANSWERED.matcher(example);
        StringBuilder s = new StringBuilder();
        while (m.find()) {
            answers++;
            String call = m.group(1).replace("\\", "\\\\").replace("\"", "\\\"");
            m.appendReplacement(s, Matcher.quoteReplacement(
                "due.accept(\"" + call + "\", new long[] {" + m.group(1) + ", " + m.group(2) + "});"));
        }
        return m.appendTail(s).toString();
    }

    private Class<?> compiled(String source) throws Exception {
        Path folder = Files.createTempDirectory("readme");
        try {
            JavaCompiler compiler = ToolProvider.getSystemJavaCompiler();
            URI name = URI.create("string:///Examples.java");
            JavaFileObject file = new SimpleJavaFileObject(name, JavaFileObject.Kind.SOURCE) {
                @Override
                public CharSequence getCharContent(boolean ignored) {
                    return source;
                }
            };
            List<String> options = List.of("-proc:none", "-d", folder.toString(), "-classpath",
                System.getProperty("java.class.path"));
            boolean made = compiler.getTask(null, null, null, options, null, List.of(file)).call();
            dues.holds("they compile", made);
            return made ? new Loader(Files.readAllBytes(folder.resolve("Examples.class"))).made : null;
        } finally {
            delete(folder);
        }
    }

    private static final class Loader extends ClassLoader {
        final Class<?> made;

        Loader(byte[] code) {
            super(ReadmeTest.class.getClassLoader());
            made = defineClass("Examples", code, 0, code.length);
        }
    }

    private static void delete(Path folder) throws IOException {
        try (Stream<Path> files = Files.walk(folder)) {
            files.sorted((a, b) -> b.compareTo(a)).forEach(f -> f.toFile().delete());
        }
    }

    private void namesTests() throws IOException {
        dues.about("README.md, what each of the tests looks at");
        Set<String> there = new TreeSet<>();
        try (Stream<Path> files = Files.list(TESTS)) {
            files.map(f -> f.getFileName().toString()).filter(f -> f.endsWith("Test.java"))
                .forEach(f -> there.add(f.replace(".java", "")));
        }
        Set<String> told = new TreeSet<>();
        Matcher row = Pattern.compile("(?m)^\\| `(\\w+Test)` \\|").matcher(words);
        while (row.find()) {
            told.add(row.group(1));
        }
        dues.holds("the tests are " + there + ", not " + told, told.equals(there));
    }
}

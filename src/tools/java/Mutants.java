import java.io.File;
import java.io.IOException;
import java.nio.file.Files;
import java.nio.file.Path;
import java.util.ArrayList;
import java.util.List;
import java.util.concurrent.ExecutorService;
import java.util.concurrent.Executors;
import java.util.concurrent.Future;
import java.util.concurrent.TimeUnit;
import java.util.regex.Matcher;
import java.util.regex.Pattern;
import java.util.stream.Stream;
import javax.tools.JavaCompiler;
import javax.tools.ToolProvider;

/**
 * Breaks the class in one place at a time and tells which broken classes pass the tests that are
 * named: each is a boundary that no test sees, or a change that no call can show. Run by hand, from
 * the project's folder; takes some minutes.
 */
public final class Mutants {
    private static final Path MAIN = Path.of("src/main/java/ChanceNets.java");
    private static final Path TESTS = Path.of("src/test/java");
    private static final int SECONDS = 60;
    private static final String[][] SWAPS = {
        {" < ", " <= "}, {" <= ", " < "}, {" > ", " >= "}, {" >= ", " > "}, {" == ", " != "}, {" != ", " == "},
        {" && ", " || "}, {" \\|\\| ", " && "}, {" \\+ ", " - "}, {" - ", " + "}, {" \\* ", " + "},
        {" / ", " * "}, {"\\+\\+", "--"}, {"--", "++"}, {"!(?=[a-z(])", ""}, {" \\+= ", " -= "}, {" \\|= ", " = "},
        {"return true", "return false"}, {"return false", "return true"},
        {"\\bBAD\\b", "STATE"}, {"\\bSTATE\\b", "FULL"}, {"\\bFULL\\b", "BAD"}, {"\\bNONE\\b", "BAD"}};
    private static final Pattern NUMBER = Pattern.compile("(?<!\\w)\\d+(?!\\w)");
    private static final Pattern STATEMENT = Pattern.compile(
        "^ {8,}(?!return|int|long|boolean|final|private|public|for|case|default|break|\\w+ \\w+;).*;$");

    private record Mutant(int line, String text) { }

    public static void main(String[] tests) throws Exception {
        if (tests.length == 0) {
            System.out.println("which tests? e.g. TextEdgesTest NetEdgesTest SeenEdgesTest RefusedTest AskEdgesTest");
            return;
        }
        List<String> source = Files.readAllLines(MAIN);
        List<Mutant> all = mutants(source);
        Path built = Files.createTempDirectory("mutants");
        compileTests(built, tests);
        for (String test : tests) {
            if (!passes(built.toString(), test)) {
                throw new IllegalStateException(test + " does not pass with the class as it is");
            }
        }
        ExecutorService pool = Executors.newFixedThreadPool(Runtime.getRuntime().availableProcessors());
        List<Future<Boolean>> passes = new ArrayList<>();
        for (Mutant m : all) {
            passes.add(pool.submit(() -> passes(source, m, built, tests)));
        }
        int survived = 0;
        for (int i = 0; i < all.size(); i++) {
            if (passes.get(i).get()) {
                Mutant m = all.get(i);
                survived++;
                System.out.println(m.line + 1 + "\n  - " + source.get(m.line).trim() + "\n  + " + m.text.trim());
            }
        }
        pool.shutdown();
        delete(built);
        System.out.println(survived + " of " + all.size() + " broken classes pass");
    }

    private static List<Mutant> mutants(List<String> source) {
        List<Mutant> all = new ArrayList<>();
        boolean comment = false;
        for (int i = 0; i < source.size(); i++) {
            String line = source.get(i);
            comment |= line.contains("/*");
            if (!comment && !line.trim().startsWith("//") && !line.startsWith("import")) {
                breaks(i, line, all);
            }
            comment &= !line.contains("*/");
        }
        return all;
    }

    private static void breaks(int i, String line, List<Mutant> all) {
        for (String[] swap : SWAPS) {
            Matcher m = Pattern.compile(swap[0]).matcher(line);
            while (m.find()) {
                all.add(new Mutant(i, line.substring(0, m.start()) + swap[1] + line.substring(m.end())));
            }
        }
        Matcher m = NUMBER.matcher(line);
        while (m.find()) {
            int number = Integer.parseInt(m.group());
            for (int other = number - 1; other <= number + 1; other += 2) {
                all.add(new Mutant(i, line.substring(0, m.start()) + "(" + other + ")" + line.substring(m.end())));
            }
        }
        if (STATEMENT.matcher(line).matches()) {
            all.add(new Mutant(i, ";"));
        }
    }

    private static void compileTests(Path built, String[] tests) throws IOException {
        List<String> args = new ArrayList<>(List.of("-nowarn", "-d", built.toString(), "-sourcepath",
            TESTS.toString(), MAIN.toString()));
        for (String test : tests) {
            args.add(TESTS.resolve(test + ".java").toString());
        }
        ToolProvider.getSystemJavaCompiler().run(null, null, null, args.toArray(new String[0]));
    }

    private static boolean passes(List<String> source, Mutant m, Path built, String[] tests) throws Exception {
        Path folder = Files.createTempDirectory(built, "one");
        List<String> lines = new ArrayList<>(source);
        lines.set(m.line, m.text);
        Path file = Files.write(folder.resolve("ChanceNets.java"), lines);
        JavaCompiler compiler = ToolProvider.getSystemJavaCompiler();
        boolean passes = compiler.run(null, null, java.io.OutputStream.nullOutputStream(),
            "-nowarn", "-d", folder.toString(), file.toString()) == 0;
        for (int i = 0; passes && i < tests.length; i++) {
            passes = passes(folder + File.pathSeparator + built, tests[i]);
        }
        delete(folder);
        return passes;
    }

    private static boolean passes(String path, String test) throws Exception {
        // The broken class stands ahead of the whole one on the path.
        Process p = new ProcessBuilder("java", "-XX:+UseSerialGC", "-XX:TieredStopAtLevel=1", "-cp", path, test)
            .redirectErrorStream(true).redirectOutput(ProcessBuilder.Redirect.DISCARD).start();
        if (!p.waitFor(SECONDS, TimeUnit.SECONDS)) {
            p.destroyForcibly();
            return false;
        }
        return p.exitValue() == 0;
    }

    private static void delete(Path folder) throws IOException {
        try (Stream<Path> files = Files.walk(folder)) {
            files.sorted((a, b) -> b.compareTo(a)).forEach(f -> f.toFile().delete());
        }
    }
}

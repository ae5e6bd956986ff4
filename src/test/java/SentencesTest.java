import java.io.IOException;
import java.nio.file.Files;
import java.nio.file.Path;
import java.util.HashMap;
import java.util.Map;
import java.util.regex.Matcher;
import java.util.regex.Pattern;

/** No piece of the document is without a test: sentences.txt has all of it, and the tests that it names are run. */
public final class SentencesTest {
    private static final Path PIECES = Path.of("src/test/sentences.txt");
    private static final Path TESTS = Path.of("src/test/java");
    private static final Path DOCUMENT = Path.of("../shared/DOC.md");
    private static final String ARROW = "    -> ";

    private final Dues dues = new Dues();
    private final Map<String, String> sources = new HashMap<>();
    private final StringBuilder words = new StringBuilder();

    public static void main(String[] args) throws IOException {
        SentencesTest t = new SentencesTest();
        t.pieces(Files.readString(PIECES).split("=====\n", 2)[1]);
        t.document();
        t.dues.end();
    }

    private void pieces(String text) throws IOException {
        StringBuilder piece = new StringBuilder();
        for (String line : text.split("\n")) {
            if (line.startsWith(ARROW)) {
                tests(piece.toString().trim(), line.substring(ARROW.length()));
                words.append(piece);
                piece.setLength(0);
            } else {
                piece.append(line).append(' ');
            }
        }
        dues.holds("the last piece has an end", piece.isEmpty());
    }

    private void tests(String piece, String names) throws IOException {
        dues.about(piece);
        dues.holds("there is a piece ahead of " + names, !piece.isEmpty());
        if (names.startsWith("none: ")) {
            return;
        }
        for (String name : names.split(", ")) {
            String[] parts = name.split("\\.");
            dues.holds(name + " is a test's name", parts.length == 2);
            dues.holds(name + " is told and run", uses(sourceOf(parts[0]), parts[1]) >= 2);
        }
    }

    private String sourceOf(String test) throws IOException {
        if (!sources.containsKey(test)) {
            Path file = TESTS.resolve(test + ".java");
            sources.put(test, Files.exists(file) ? Files.readString(file) : "");
        }
        return sources.get(test);
    }

    /** Where a method is told counts as one, each call of it that is no other object's as one more. */
    private static int uses(String source, String method) {
        Matcher m = Pattern.compile("(void | t\\.|^ +)" + method + "\\(", Pattern.MULTILINE).matcher(source);
        int many = 0;
        while (m.find()) {
            many++;
        }
        return many;
    }

    private void document() throws IOException {
        dues.about("sentences.txt has all of the document");
        if (!Files.exists(DOCUMENT)) {
            System.out.println("not compared with the document, there is none at " + DOCUMENT);
            return;
        }
        dues.same("its pieces together", plain(words.toString()), plain(Files.readString(DOCUMENT)));
    }

    private static String plain(String text) {
        return text.replaceAll("\\s+", " ").trim();
    }
}

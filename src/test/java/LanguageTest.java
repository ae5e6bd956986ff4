import java.io.IOException;
import java.nio.file.Files;
import java.nio.file.Path;
import java.util.ArrayList;
import java.util.HashSet;
import java.util.List;
import java.util.Map;
import java.util.Set;
import java.util.TreeMap;
import java.util.TreeSet;
import java.util.regex.Matcher;
import java.util.regex.Pattern;

/** Those rules of LANGUAGE.md that can be seen by the words of the source; it is read as it is laid out here. */
public final class LanguageTest {
    private static final Set<String> IMPORTS = Set.of("java.util.Arrays", "java.util.List", "java.util.ArrayList",
        "java.util.Iterator");
    private static final Set<String> LIBRARY = Set.of("Math.max", "Math.min", "Math.abs", "Math.floorDiv",
        "Math.floorMod", "Integer.bitCount", "Integer.compare", "Long.compare", "Long.bitCount", "Arrays.fill",
        "Arrays.copyOf", "Arrays.copyOfRange", "System.arraycopy", "List.of");
    /** Some of these the rules allow within bounds that words do not show; the class has no need of them. */
    private static final Pattern FORBIDDEN = Pattern.compile("\\b(throw|throws|try|catch|synchronized|assert|protected"
        + "|package|volatile|native|transient|double|float|String|instanceof|record)\\b|->|::|@|\"");
    private static final Pattern HEAD = Pattern.compile(
        "^ {4,8}((?:public |private |static |final )*)((?:[\\w\\[\\]]+ )?)(\\w+)\\([^()]*\\) \\{$");
    private static final Set<String> CONTROL = Set.of("if", "for", "while", "switch", "catch");
    private static final Pattern COUNTED = Pattern.compile(
        "for \\(int (\\w+) = [^;]+; [^;]*\\b\\1(?: \\+ 1)? <=? [^;]+; \\1\\+\\+\\) \\{");
    private static final Pattern WHILE = Pattern.compile("while \\((\\w+) < \\w+ && [^;]*\\) \\{");
    private static final int MOST_METHOD_LINES = 60;
    private static final int MOST_DEEP = 8;

    /** Of all methods of one name together; a class's constructor has the class's name. */
    private static final class Body {
        final List<String> lines = new ArrayList<>();
        boolean isConstructor;
    }

    private final Dues dues = new Dues();
    private final List<String> code = new ArrayList<>();
    private final Map<String, Body> bodies = new TreeMap<>();

    public static void main(String[] args) throws IOException {
        LanguageTest t = new LanguageTest();
        String source = Files.readString(Path.of(System.getProperty("chancenets.source",
            "src/main/java/ChanceNets.java")));
        t.signs(source);
        t.readCode(source);
        t.words();
        t.imports();
        t.library();
        t.readMethods();
        t.madeInConstructors();
        t.loops();
        t.depth();
        t.divisors();
        t.dues.end();
    }

    private void signs(String source) {
        dues.about("LANGUAGE.md 4, signs 1 to 127");
        for (int i = 0; i < source.length(); i++) {
            if (source.charAt(i) < 1 || source.charAt(i) > 127) {
                dues.holds("sign " + (int) source.charAt(i) + " at " + i, false);
            }
        }
        dues.holds("there is a source", source.length() > 1000);
    }

    /** Comments go, lines stay where they are. */
    private void readCode(String source) {
        boolean comment = false;
        for (String line : source.split("\n")) {
            comment |= line.trim().startsWith("/*");
            code.add(comment ? "" : line.replaceAll(" *//.*", ""));
            comment &= !line.contains("*/");
        }
    }

    private void words() {
        dues.about("LANGUAGE.md 2, 3 and 6, words that do not stand in the source");
        for (int i = 0; i < code.size(); i++) {
            Matcher m = FORBIDDEN.matcher(code.get(i));
            dues.holds("line " + (i + 1) + ": " + code.get(i).trim(), !m.find());
        }
    }

    private void imports() {
        dues.about("LANGUAGE.md 4, the library");
        for (String line : code) {
            if (line.startsWith("import ")) {
                dues.holds(line, IMPORTS.contains(line.replaceAll("import |;", "")));
            }
        }
    }

    private void library() {
        dues.about("LANGUAGE.md 4, the library: only what stands there");
        Pattern call = Pattern.compile("\\b([A-Z][a-z]\\w*)\\.(\\w+)");
        for (String line : code) {
            Matcher m = call.matcher(line);
            while (!line.startsWith("import ") && m.find()) {
                dues.holds(m.group(), LIBRARY.contains(m.group()));
            }
        }
    }

    // ---- methods

    private void readMethods() {
        dues.about("LANGUAGE.md 11, methods stay short (some sixty lines)");
        for (int i = 0; i < code.size(); i++) {
            Matcher m = HEAD.matcher(code.get(i));
            if (m.matches() && !CONTROL.contains(m.group(3))) {
                String end = code.get(i).replaceAll("\\S.*", "") + "}";
                Body body = bodies.computeIfAbsent(m.group(3), name -> new Body());
                body.isConstructor = m.group(2).isEmpty();
                int first = i;
                for (i++; !code.get(i).equals(end); i++) {
                    body.lines.add(code.get(i));
                }
                dues.holds(m.group(3) + " has " + (i - first + 1) + " lines", i - first < MOST_METHOD_LINES);
            }
        }
        dues.holds("all public methods were read", bodies.keySet().containsAll(Set.of("type", "count", "odds")));
        dues.holds(bodies.size() + " names of methods", bodies.size() > 60);
    }

    private void madeInConstructors() {
        dues.about("LANGUAGE.md 12, what a run makes: nothing but by constructors");
        for (Map.Entry<String, Body> one : bodies.entrySet()) {
            for (String line : one.getValue().lines) {
                dues.holds(one.getKey() + ": " + line.trim(),
                    one.getValue().isConstructor || !line.matches(".*\\b(new|clone|copyOf|copyOfRange)\\b.*"));
            }
        }
    }

    /** Each loop has its counter and its bound in its own head, and nothing else changes the counter. */
    private void loops() {
        dues.about("LANGUAGE.md 9, every loop has an end that can be seen from its own lines");
        int found = 0;
        for (int i = 0; i < code.size(); i++) {
            String line = code.get(i).trim();
            if (!line.matches("(\\w+: )?(for|while|do)\\b.*")) {
                continue;
            }
            found++;
            Matcher counted = COUNTED.matcher(line);
            Matcher open = WHILE.matcher(line);
            if (counted.matches()) {
                Pattern changed = Pattern.compile("\\b" + counted.group(1) + "( [-+*/|&]?= |\\+\\+|--)");
                dues.holds("line " + (i + 1) + ": " + line, !changed.matcher(bodyOf(i)).find());
            } else {
                dues.holds("line " + (i + 1) + ": " + line,
                    open.matches() && bodyOf(i).trim().equals(open.group(1) + "++;"));
            }
        }
        dues.holds(found + " loops", found > 20);
    }

    private String bodyOf(int head) {
        String end = code.get(head).replaceAll("\\S.*", "") + "}";
        StringBuilder s = new StringBuilder();
        for (int i = head + 1; !code.get(i).equals(end); i++) {
            s.append(code.get(i)).append('\n');
        }
        return s.toString();
    }

    // ---- calls

    private void depth() {
        dues.about("LANGUAGE.md 8 and 11, no recursion; calls go at most eight deep");
        for (String name : bodies.keySet()) {
            int deep = deep(name, new HashSet<>());
            dues.holds(name + " goes " + deep + " deep", deep <= MOST_DEEP);
        }
    }

    /** Methods of like names are taken for one, so that this is no less than what is so. */
    private int deep(String name, Set<String> open) {
        if (!open.add(name)) {
            return MOST_DEEP + 1;
        }
        int most = 0;
        for (String called : calls(bodies.get(name))) {
            most = Math.max(most, deep(called, open));
        }
        open.remove(name);
        return most + 1;
    }

    private Set<String> calls(Body body) {
        Set<String> called = new TreeSet<>();
        Pattern call = Pattern.compile("(?<![A-Z][a-z]{1,8}\\.)\\b(\\w+)\\(");
        for (String line : body.lines) {
            Matcher m = call.matcher(line);
            while (m.find()) {
                if (bodies.containsKey(m.group(1))) {
                    called.add(m.group(1));
                }
            }
        }
        return called;
    }

    /** What divides is a number other than 0, or a name whose value the lines ahead keep from being 0. */
    private void divisors() {
        dues.about("LANGUAGE.md 7, a divisor is looked at before it divides");
        Set<String> kept = Set.of("divisor", "before", "rest");
        Pattern division = Pattern.compile("[^/*][/%] ?(\\w+)");
        int found = 0;
        for (String line : code) {
            Matcher m = division.matcher(line);
            while (m.find()) {
                found++;
                dues.holds(line.trim(), m.group(1).matches("[1-9]\\d*") || kept.contains(m.group(1)));
            }
        }
        dues.holds(found + " divisions", found > 3);
    }
}

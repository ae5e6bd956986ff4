import java.io.IOException;
import java.lang.reflect.Constructor;
import java.lang.reflect.Field;
import java.lang.reflect.Method;
import java.lang.reflect.Modifier;
import java.nio.file.Files;
import java.nio.file.Path;
import java.util.Set;
import java.util.TreeSet;
import java.util.regex.Matcher;
import java.util.regex.Pattern;

/** The face of the class, and those rules of LANGUAGE.md that can be seen from outside or by words. */
public final class FaceTest {
    private static final Set<String> FACE = Set.of(
        "int type(int)", "int clear()", "int net()", "int line(int,int)", "int width(int,int)",
        "int lays(int,int,int)", "int widens(int,int)", "int cuts(int)", "int undo()",
        "long hitting(int,int,int)", "long between(int,int,int,int)", "long ahead(int,int,int,int)",
        "long walks(int,int,int)", "long trees()", "long share(int,int)", "int rank(int)",
        "long reduced(int,int,int)", "int worst(int,int)", "long odds(int,int)", "int sees(long)",
        "int forget()", "int unseen()", "int keep(int)", "int back(int)", "int count(int)");

    private static final Dues DUES = new Dues();

    public static void main(String[] args) throws IOException {
        Class<?> c = ChanceNets.class;
        DUES.holds("public final", Modifier.isPublic(c.getModifiers()) && Modifier.isFinal(c.getModifiers()));
        seesMethods(c);
        seesFields(c);
        DUES.due("constructors", c.getDeclaredConstructors().length, 1);
        for (Constructor<?> k : c.getDeclaredConstructors()) {
            DUES.holds("public constructor without arguments",
                Modifier.isPublic(k.getModifiers()) && k.getParameterCount() == 0);
        }
        Class<?>[] inside = c.getDeclaredClasses();
        DUES.holds("twelve classes at most", inside.length < 12);
        for (Class<?> d : inside) {
            seesInside(d);
        }
        seesSource(Files.readString(Path.of(System.getProperty("chancenets.source",
            "src/main/java/ChanceNets.java"))));
        DUES.end();
    }

    private static void seesMethods(Class<?> c) {
        Set<String> found = new TreeSet<>();
        Set<String> names = new TreeSet<>();
        for (Method m : c.getDeclaredMethods()) {
            if (Modifier.isPrivate(m.getModifiers())) continue;
            StringBuilder s = new StringBuilder(m.getReturnType() + " " + m.getName() + "(");
            for (Class<?> p : m.getParameterTypes()) {
                s.append(s.charAt(s.length() - 1) == '(' ? "" : ",").append(p);
            }
            found.add(s.append(")").toString());
            names.add(m.getName());
            DUES.holds(s + " is public", Modifier.isPublic(m.getModifiers()));
        }
        DUES.holds("the methods are " + new TreeSet<>(FACE) + ", not " + found, found.equals(FACE));
        for (Method m : c.getDeclaredMethods()) {
            DUES.holds("private " + m.getName() + " has a name of its own",
                !Modifier.isPrivate(m.getModifiers()) || !names.contains(m.getName()));
        }
    }

    private static void seesFields(Class<?> c) {
        Set<String> open = new TreeSet<>();
        for (Field f : c.getDeclaredFields()) {
            int m = f.getModifiers();
            if (!Modifier.isPrivate(m)) open.add(f.getName());
            DUES.holds("static " + f.getName() + " is final", !Modifier.isStatic(m) || Modifier.isFinal(m));
        }
        DUES.holds("the constants", open.equals(Set.of("BAD", "STATE", "FULL", "NONE")));
    }

    private static void seesInside(Class<?> d) {
        DUES.holds(d + " is static", Modifier.isStatic(d.getModifiers()));
        DUES.holds(d + " is not public", !Modifier.isPublic(d.getModifiers())
            && !Modifier.isProtected(d.getModifiers()));
        DUES.holds(d + " has twenty fields at most", d.getDeclaredFields().length <= 20);
        for (Field f : d.getDeclaredFields()) {
            DUES.holds("static " + f + " is final",
                !Modifier.isStatic(f.getModifiers()) || Modifier.isFinal(f.getModifiers()));
        }
        for (Method m : d.getDeclaredMethods()) {
            DUES.holds(m + " takes seven at most", m.getParameterCount() <= 7);
        }
    }

    private static void seesSource(String source) {
        String code = source.replaceAll("(?s)/\\*.*?\\*/", "").replaceAll("//[^\n]*", "");
        Matcher words = Pattern.compile("\\b(throw|throws|try|catch|synchronized|assert|protected|package"
            + "|volatile|native|double|float)\\b|->|::|@").matcher(code);
        while (words.find()) {
            DUES.holds("'" + words.group() + "' does not stand in the source", false);
        }
        Matcher imports = Pattern.compile("import ([^;]*);").matcher(code);
        while (imports.find()) {
            DUES.holds("import " + imports.group(1) + " is one of the language's",
                Set.of("java.util.Arrays", "java.util.List", "java.util.ArrayList").contains(imports.group(1)));
        }
    }
}

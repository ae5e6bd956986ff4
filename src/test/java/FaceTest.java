import java.lang.reflect.Constructor;
import java.lang.reflect.Field;
import java.lang.reflect.Method;
import java.lang.reflect.Modifier;
import java.util.Map;
import java.util.Set;
import java.util.TreeMap;
import java.util.TreeSet;

/** The public face, and those rules of LANGUAGE.md that can be seen by reflection. */
public final class FaceTest {
    private static final Set<String> FACE = Set.of(
        "int type(int)", "int clear()", "int net()", "int line(int,int)", "int width(int,int)",
        "int lays(int,int,int)", "int widens(int,int)", "int cuts(int)", "int undo()",
        "long hitting(int,int,int)", "long between(int,int,int,int)", "long ahead(int,int,int,int)",
        "long walks(int,int,int)", "long trees()", "long share(int,int)", "int rank(int)",
        "long reduced(int,int,int)", "int worst(int,int)", "long odds(int,int)", "int sees(long)",
        "int forget()", "int unseen()", "int keep(int)", "int back(int)", "int count(int)");
    private static final Map<String, Integer> CONSTANTS = Map.of("BAD", -1, "STATE", -2, "FULL", -3, "NONE", -9);
    private static final Set<Class<?>> STATIC_TYPES = Set.of(int.class, long.class, boolean.class, char.class,
        String.class, int[].class, long[].class, char[].class, byte[].class);
    private static final int MOST_CLASSES = 12;
    private static final int MOST_FIELDS = 20;
    private static final int MOST_PARAMETERS = 7;

    private final Dues dues = new Dues();

    public static void main(String[] args) throws IllegalAccessException {
        FaceTest t = new FaceTest();
        t.theClass();
        t.constants();
        t.constructor();
        t.methods();
        t.privateNames();
        t.classesInside();
        for (Class<?> c : ChanceNets.class.getNestMembers()) {
            t.staticFields(c);
            t.sizes(c);
        }
        t.dues.end();
    }

    private void theClass() {
        dues.about("The public face, public final class ChanceNets");
        Class<?> c = ChanceNets.class;
        dues.holds("public", Modifier.isPublic(c.getModifiers()));
        dues.holds("final", Modifier.isFinal(c.getModifiers()));
        dues.holds("without a package", c.getPackageName().isEmpty());
        dues.holds("of no other class", c.getSuperclass() == Object.class && c.getInterfaces().length == 0);
    }

    private void constants() throws IllegalAccessException {
        dues.about("The public face, public static final int BAD = -1, STATE = -2, FULL = -3, NONE = -9");
        Map<String, Integer> found = new TreeMap<>();
        for (Field f : ChanceNets.class.getDeclaredFields()) {
            if (Modifier.isPrivate(f.getModifiers())) {
                continue;
            }
            int all = Modifier.PUBLIC | Modifier.STATIC | Modifier.FINAL;
            dues.due("what stands ahead of " + f.getName(), f.getModifiers(), all);
            dues.holds(f.getName() + " is an int", f.getType() == int.class);
            found.put(f.getName(), f.getInt(null));
        }
        dues.holds("the constants are " + CONSTANTS + ", not " + found, found.equals(CONSTANTS));
    }

    private void constructor() {
        dues.about("The public face, public ChanceNets()");
        Constructor<?>[] all = ChanceNets.class.getDeclaredConstructors();
        dues.due("constructors", all.length, 1);
        for (Constructor<?> k : all) {
            dues.due("what stands ahead of it", k.getModifiers(), Modifier.PUBLIC);
            dues.due("its arguments", k.getParameterCount(), 0);
        }
    }

    private static String told(Method m) {
        StringBuilder s = new StringBuilder(m.getReturnType() + " " + m.getName() + "(");
        for (Class<?> p : m.getParameterTypes()) {
            s.append(s.charAt(s.length() - 1) == '(' ? "" : ",").append(p);
        }
        return s.append(")").toString();
    }

    private void methods() {
        dues.about("The public face, the methods");
        Set<String> found = new TreeSet<>();
        for (Method m : ChanceNets.class.getDeclaredMethods()) {
            if (!Modifier.isPrivate(m.getModifiers())) {
                found.add(told(m));
                dues.due("what stands ahead of " + told(m), m.getModifiers(), Modifier.PUBLIC);
                dues.due("exceptions that " + told(m) + " names", m.getExceptionTypes().length, 0);
            }
        }
        dues.holds("the methods are " + new TreeSet<>(FACE) + ", not " + found, found.equals(FACE));
    }

    private void privateNames() {
        dues.about("LANGUAGE.md 1, no private method bears the name of a public one");
        Set<String> open = new TreeSet<>();
        for (String method : FACE) {
            open.add(method.substring(method.indexOf(' ') + 1, method.indexOf('(')));
        }
        for (Class<?> c : ChanceNets.class.getNestMembers()) {
            for (Method m : c.getDeclaredMethods()) {
                dues.holds(c.getName() + "." + m.getName() + " has a name of its own",
                    c == ChanceNets.class && Modifier.isPublic(m.getModifiers()) || !open.contains(m.getName()));
            }
        }
    }

    private void classesInside() {
        dues.about("LANGUAGE.md 2, classes inside: static, none local or without a name");
        Class<?>[] inside = ChanceNets.class.getDeclaredClasses();
        dues.due("classes of the file", ChanceNets.class.getNestMembers().length, inside.length + 1);
        dues.holds("classes at most", inside.length < MOST_CLASSES);
        for (Class<?> c : inside) {
            int m = c.getModifiers();
            dues.holds(c + " is static", Modifier.isStatic(m));
            dues.holds(c + " is not open", !Modifier.isPublic(m) && !Modifier.isProtected(m));
        }
    }

    private void staticFields(Class<?> c) {
        dues.about("LANGUAGE.md 5, static fields are final constants");
        for (Field f : c.getDeclaredFields()) {
            if (Modifier.isStatic(f.getModifiers())) {
                dues.holds(f + " is final", Modifier.isFinal(f.getModifiers()));
                dues.holds(f + " is of a type that may be", STATIC_TYPES.contains(f.getType()));
            }
        }
    }

    private void sizes(Class<?> c) {
        dues.about("LANGUAGE.md 11, seven parameters, twenty fields at most");
        int fields = 0;
        for (Field f : c.getDeclaredFields()) {
            fields += Modifier.isStatic(f.getModifiers()) ? 0 : 1;
        }
        dues.holds(c + " has " + fields + " fields", fields <= MOST_FIELDS);
        for (Method m : c.getDeclaredMethods()) {
            dues.holds(m + " takes so many", m.getParameterCount() <= MOST_PARAMETERS);
        }
        for (Constructor<?> k : c.getDeclaredConstructors()) {
            dues.holds(k + " takes so many", k.getParameterCount() <= MOST_PARAMETERS);
        }
    }
}

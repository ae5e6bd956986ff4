import java.util.ArrayDeque;
import java.util.ArrayList;
import java.util.Deque;
import java.util.HashMap;
import java.util.List;
import java.util.Map;
import java.util.TreeMap;

/**
 * The document once more, by its words and by other ways than ChanceNets goes: chains of chances
 * solved in fractions, trees and walks told one by one. Slow, and only for tests.
 */
final class PlainNet {
    static final int BAD = -1, STATE = -2, FULL = -3, NONE = -9;

    private int nodes = 2;
    private TreeMap<Integer, Integer> lines = new TreeMap<>(); // 10 * lower node + other node: width
    private StringBuilder text = new StringBuilder();
    private final Deque<TreeMap<Integer, Integer>> past = new ArrayDeque<>();
    private final List<Long> seen = new ArrayList<>();
    private final Map<Integer, TreeMap<Integer, Integer>> images = new HashMap<>();

    // ---- the net

    int type(int letter) {
        if (letter < 0 || letter > 255) return BAD;
        if (text.length() == 80) return FULL;
        return text.append((char) letter).length();
    }

    int clear() {
        int had = text.length();
        text = new StringBuilder();
        return had;
    }

    private record Token(int place, String letters) { }

    private List<Token> tokens() {
        List<Token> all = new ArrayList<>();
        int i = 0;
        while (i < text.length()) {
            int from = i;
            while (i < text.length() && "0123456789".indexOf(text.charAt(i)) >= 0) i++;
            if (i == from) i++;
            String letters = text.substring(from, i);
            if (!letters.equals(" ")) all.add(new Token(from, letters));
        }
        all.add(new Token(text.length(), "end"));
        return all;
    }

    int net() {
        List<Token> all = tokens();
        int newNodes = 2;
        TreeMap<Integer, Integer> newLines = new TreeMap<>();
        int items = 0;
        int at = 0;
        while (!all.get(at).letters.equals("end")) {
            String head = all.get(at).letters;
            boolean isNodes = head.equals("n") && items == 0;
            boolean isLine = head.equals("e") && newLines.size() < 10;
            if (!isNodes && !isLine) return -10 - all.get(at).place;
            int[] numbers = new int[isNodes ? 1 : 3];
            at++;
            for (int i = 0; i < numbers.length; i++, at++) {
                int least = isNodes ? 2 : i == 2 ? 1 : 0;
                int most = isNodes ? 6 : i == 2 ? 9 : newNodes - 1;
                boolean may = false;
                for (int n = least; n <= most; n++) {
                    if (all.get(at).letters.equals("" + n)) {
                        numbers[i] = n;
                        may = true;
                    }
                }
                if (may && !isNodes && i == 1) {
                    may = numbers[0] != numbers[1] && !newLines.containsKey(key(numbers[0], numbers[1]));
                }
                if (!may) return -10 - all.get(at).place;
            }
            if (!all.get(at).letters.equals(";")) return -10 - all.get(at).place;
            at++;
            if (isNodes) newNodes = numbers[0];
            else newLines.put(key(numbers[0], numbers[1]), numbers[2]);
            items++;
        }
        nodes = newNodes;
        lines = newLines;
        text = new StringBuilder();
        past.clear();
        seen.clear();
        images.clear();
        return items;
    }

    private static int key(int u, int v) {
        return 10 * Math.min(u, v) + Math.max(u, v);
    }

    private List<Integer> keys() {
        return new ArrayList<>(lines.keySet());
    }

    private boolean node(int u) {
        return u >= 0 && u < nodes;
    }

    private boolean isLine(int l) {
        return l >= 0 && l < lines.size();
    }

    private int wide(int u, int v) {
        return u == v ? 0 : lines.getOrDefault(key(u, v), 0);
    }

    private int degree(int u) {
        int sum = 0;
        for (int v = 0; v < nodes; v++) sum += wide(u, v);
        return sum;
    }

    private int whole() {
        int sum = 0;
        for (int w : lines.values()) sum += w;
        return sum;
    }

    int line(int l, int what) {
        if (!isLine(l) || what < 0 || what > 2) return BAD;
        int k = keys().get(l);
        return what == 0 ? k / 10 : what == 1 ? k % 10 : lines.get(k);
    }

    int width(int u, int v) {
        if (!node(u) || !node(v)) return BAD;
        return u == v ? degree(u) : wide(u, v);
    }

    // ---- what is done

    private void remember() {
        past.addLast(new TreeMap<>(lines));
        if (past.size() > 12) past.removeFirst();
    }

    int lays(int u, int v, int w) {
        if (!node(u) || !node(v) || u == v || w < 1 || w > 9) return BAD;
        if (wide(u, v) > 0) return STATE;
        if (lines.size() == 10) return FULL;
        remember();
        lines.put(key(u, v), w);
        return lines.size();
    }

    int widens(int l, int w) {
        if (!isLine(l) || w < 1 || w > 9) return BAD;
        int k = keys().get(l);
        if (lines.get(k) == w) return STATE;
        remember();
        return lines.put(k, w);
    }

    int cuts(int l) {
        if (!isLine(l)) return BAD;
        remember();
        lines.remove(keys().get(l));
        return lines.size();
    }

    int undo() {
        if (past.isEmpty()) return STATE;
        lines = past.removeLast();
        return past.size();
    }

    // ---- walks

    /** Whether these lines alone lead from each node to each other one. */
    private boolean hangs(Iterable<Integer> some) {
        int[] color = new int[nodes];
        for (int u = 0; u < nodes; u++) color[u] = u;
        for (int k : some) {
            int from = color[k / 10], to = color[k % 10];
            for (int u = 0; u < nodes; u++) if (color[u] == from) color[u] = to;
        }
        for (int u = 0; u < nodes; u++) if (color[u] != color[0]) return false;
        return true;
    }

    private boolean hangs() {
        return hangs(lines.keySet());
    }

    /** Values with value = base + average of the neighbours' values, but for those that are fixed. */
    private Fraction[] solve(Fraction base, Map<Integer, Fraction> fixed) {
        Fraction[][] m = new Fraction[nodes][nodes + 1];
        for (int u = 0; u < nodes; u++) {
            for (int v = 0; v < nodes; v++) {
                m[u][v] = u == v ? Fraction.ONE
                    : fixed.containsKey(u) ? Fraction.ZERO : Fraction.of(-wide(u, v), degree(u));
            }
            m[u][nodes] = fixed.getOrDefault(u, base);
        }
        for (int c = 0; c < nodes; c++) {
            int p = c;
            while (m[p][c].equals(Fraction.ZERO)) p++;
            Fraction[] row = m[p];
            m[p] = m[c];
            m[c] = row;
            for (int r = 0; r < nodes; r++) {
                Fraction factor = m[r][c].by(m[c][c]);
                for (int k = c; r != c && k <= nodes; k++) m[r][k] = m[r][k].minus(factor.times(m[c][k]));
            }
        }
        Fraction[] values = new Fraction[nodes];
        for (int u = 0; u < nodes; u++) values[u] = m[u][nodes].by(m[u][u]);
        return values;
    }

    private Fraction steps(int u, int v) {
        return solve(Fraction.ONE, Map.of(v, Fraction.ZERO))[u];
    }

    private static boolean part(int what) {
        return what == 0 || what == 1;
    }

    long hitting(int u, int v, int what) {
        if (!node(u) || !node(v) || !part(what)) return BAD;
        if (!hangs()) return STATE;
        return steps(u, v).part(what);
    }

    long between(int u, int v, int kind, int what) {
        if (!node(u) || !node(v) || !part(kind) || !part(what)) return BAD;
        if (!hangs()) return STATE;
        Fraction commute = steps(u, v).plus(steps(v, u));
        return (kind == 0 ? commute : commute.by(Fraction.of(2 * whole(), 1))).part(what);
    }

    long ahead(int u, int a, int b, int what) {
        if (!node(u) || !node(a) || !node(b) || a == b || !part(what)) return BAD;
        if (!hangs()) return STATE;
        return solve(Fraction.ZERO, Map.of(a, Fraction.ONE, b, Fraction.ZERO))[u].part(what);
    }

    long walks(int u, int t, int kind) {
        if (!node(u) || t < 0 || t > 6 || kind < 0 || kind > 2) return BAD;
        return walksFrom(u, u, t, kind, "" + u);
    }

    private long walksFrom(int start, int u, int t, int kind, String met) {
        if (t == 0) {
            if (kind == 1) return u == start ? 1 : 0;
            for (int v = 0; kind == 2 && v < nodes; v++) if (met.indexOf('0' + v) < 0) return 0;
            return 1;
        }
        long sum = 0;
        for (int v = 0; v < nodes; v++) {
            if (wide(u, v) > 0) sum += wide(u, v) * walksFrom(start, v, t - 1, kind, met + v);
        }
        return sum;
    }

    // ---- trees

    private List<Integer> chosen(int bits) {
        List<Integer> some = new ArrayList<>();
        for (int l = 0; l < lines.size(); l++) if ((bits >> l & 1) == 1) some.add(keys().get(l));
        return some;
    }

    /** The trees that have all lines of these bits. */
    private long treesWith(int needed) {
        long sum = 0;
        for (int bits = 0; bits < 1 << lines.size(); bits++) {
            if ((bits & needed) != needed || Integer.bitCount(bits) != nodes - 1) continue;
            List<Integer> some = chosen(bits);
            if (!hangs(some)) continue;
            long product = 1;
            for (int k : some) product *= lines.get(k);
            sum += product;
        }
        return sum;
    }

    long trees() {
        return treesWith(0);
    }

    private Fraction shareOf(int l) {
        return Fraction.of(treesWith(1 << l), treesWith(0));
    }

    long share(int l, int what) {
        if (!isLine(l) || !part(what)) return BAD;
        if (!hangs()) return STATE;
        return shareOf(l).part(what);
    }

    int rank(int k) {
        if (k < 0) return BAD;
        if (!hangs()) return STATE;
        List<Integer> order = new ArrayList<>();
        for (int l = 0; l < lines.size(); l++) {
            int at = 0;
            while (at < order.size() && !shareOf(l).isMoreThan(shareOf(order.get(at)))) at++;
            order.add(at, l);
        }
        return k < order.size() ? order.get(k) : NONE;
    }

    // ---- smaller nets, losses

    long reduced(int u, int v, int what) {
        if (!node(u) || !node(v) || u == v || what < 0 || what > 2) return BAD;
        if (!hangs()) return STATE;
        TreeMap<Integer, Fraction> left = new TreeMap<>();
        for (int k : keys()) left.put(k, Fraction.of(1, lines.get(k)));
        boolean again = true;
        while (again) {
            again = false;
            for (int x = 0; x < nodes && !again; x++) {
                List<Integer> own = new ArrayList<>();
                for (int k : left.keySet()) if (k / 10 == x || k % 10 == x) own.add(k);
                if (x == u || x == v || own.isEmpty() || own.size() > 2) continue;
                again = true;
                Fraction sum = Fraction.ZERO;
                for (int k : own) sum = sum.plus(left.remove(k));
                if (own.size() == 2) {
                    int a = own.get(0) / 10 + own.get(0) % 10 - x;
                    int b = own.get(1) / 10 + own.get(1) % 10 - x;
                    Fraction there = left.get(key(a, b));
                    left.put(key(a, b), there == null ? sum
                        : Fraction.ONE.by(Fraction.ONE.by(sum).plus(Fraction.ONE.by(there))));
                }
            }
        }
        if (what == 0) return left.size();
        if (left.size() != 1 || !left.containsKey(key(u, v))) return NONE;
        return left.get(key(u, v)).part(what - 1);
    }

    int worst(int u, int v) {
        if (!node(u) || !node(v) || u == v) return BAD;
        if (!hangs()) return STATE;
        int found = NONE;
        Fraction most = null;
        List<Integer> keys = keys();
        for (int l = keys.size() - 1; l >= 0; l--) {
            int w = lines.remove(keys.get(l));
            if (hangs()) {
                Fraction steps = steps(u, v);
                if (most == null || !most.isMoreThan(steps)) {
                    most = steps;
                    found = l;
                }
            }
            lines.put(keys.get(l), w);
        }
        return found;
    }

    long odds(int x, int what) {
        if (x < 0 || x > 10 || !part(what)) return BAD;
        Fraction sum = Fraction.ZERO;
        for (int bits = 0; bits < 1 << lines.size(); bits++) {
            if (!hangs(chosen(bits))) continue;
            Fraction chance = Fraction.ONE;
            for (int l = 0; l < lines.size(); l++) {
                chance = chance.times(Fraction.of((bits >> l & 1) == 1 ? 10 - x : x, 10));
            }
            sum = sum.plus(chance);
        }
        return sum.part(what);
    }

    // ---- which line

    int sees(long n) {
        if (n < 0) return BAD;
        if (seen.size() == 6) return FULL;
        seen.add(n);
        return seen.size();
    }

    int forget() {
        int had = seen.size();
        seen.clear();
        return had;
    }

    int unseen() {
        int bits = 0;
        long all = trees();
        for (int l = 0; l < lines.size(); l++) {
            long rest = all - treesWith(1 << l);
            boolean so = true;
            for (long n : seen) so &= n == rest;
            if (so) bits += 1 << l;
        }
        return bits;
    }

    /** The trees without a line, that a test may tell what would be seen. */
    long treesWithout(int l) {
        return trees() - treesWith(1 << l);
    }

    // ---- images

    int keep(int image) {
        if (image != 0 && image != 1) return BAD;
        images.put(image, new TreeMap<>(lines));
        return nodes;
    }

    int back(int image) {
        if (image != 0 && image != 1) return BAD;
        if (!images.containsKey(image)) return STATE;
        lines = new TreeMap<>(images.get(image));
        past.clear();
        return nodes;
    }

    int count(int what) {
        switch (what) {
            case 0: return nodes;
            case 1: return lines.size();
            case 2: return whole();
            case 3: return hangs() ? 1 : 0;
            case 4: return seen.size();
            case 5: return text.length();
            case 6: return past.size();
            default: return BAD;
        }
    }
}

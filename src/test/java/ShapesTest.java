import java.util.Arrays;

/**
 * Each net of 2 to 6 nodes and up to 10 lines, told by which nodes are joined: what holds between the answers,
 * and that REDUCED leaves as many lines in whatever order nodes go.
 */
public final class ShapesTest {
    private static final int STATE = Nets.STATE, NONE = Nets.NONE;
    private static final int MOST_NODES = 6;
    private static final int MOST_LINES = 10;
    private static final int PAIRS = 15;

    private final Dues dues = new Dues();
    /** For two nodes that stay and a shape: bits of how many lines can be left; 0: not looked at yet. */
    private final int[][] ends = new int[PAIRS][1 << PAIRS];

    public static void main(String[] args) {
        ShapesTest t = new ShapesTest();
        for (int nodes = 2; nodes <= MOST_NODES; nodes++) {
            t.allOf(nodes);
        }
        t.dues.end();
    }

    /** Pairs of the first nodes come first, so that a net of few nodes has low bits alone. */
    private static int pair(int u, int v) {
        int low = Math.min(u, v);
        int high = Math.max(u, v);
        return high * (high - 1) / 2 + low;
    }

    private static boolean joined(int shape, int u, int v) {
        return u != v && (shape >> pair(u, v) & 1) == 1;
    }

    private void allOf(int nodes) {
        int shapes = 1 << nodes * (nodes - 1) / 2;
        for (int shape = 0; shape < shapes && !dues.tooMany(); shape++) {
            if (Integer.bitCount(shape) <= MOST_LINES) {
                ChanceNets x = laid(nodes, shape);
                String name = nodes + " nodes, " + Integer.toBinaryString(shape) + ": ";
                if (hangs(nodes, shape)) {
                    whole(x, nodes, name);
                    reduced(x, nodes, shape, name);
                } else {
                    parted(x, name);
                }
            }
        }
    }

    private static ChanceNets laid(int nodes, int shape) {
        ChanceNets x = Nets.bare(nodes);
        for (int u = 0; u < nodes; u++) {
            for (int v = u + 1; v < nodes; v++) {
                if (joined(shape, u, v)) {
                    x.lays(v, u, (shape + 5 * u + 3 * v) % 9 + 1);
                }
            }
        }
        return x;
    }

    private static boolean hangs(int nodes, int shape) {
        int met = 1;
        for (int i = 0; i < nodes; i++) {
            for (int u = 0; u < nodes; u++) {
                for (int v = 0; v < nodes; v++) {
                    if ((met >> u & 1) == 1 && joined(shape, u, v)) {
                        met |= 1 << v;
                    }
                }
            }
        }
        return met == (1 << nodes) - 1;
    }

    private void parted(ChanceNets x, String name) {
        dues.about("Terms, the net does not HANG TOGETHER");
        dues.due(name + "count(3)", x.count(3), 0);
        dues.due(name + "trees()", x.trees(), 0);
        dues.due(name + "odds(0, 0)", x.odds(0, 0), 0);
        dues.due(name + "reduced(0, 1, 0)", x.reduced(0, 1, 0), STATE);
        dues.due(name + "hitting(0, 0, 0)", x.hitting(0, 0, 0), STATE);
    }

    private void whole(ChanceNets x, int nodes, String name) {
        dues.about("Terms, the net HANGS TOGETHER");
        dues.due(name + "count(3)", x.count(3), 1);
        dues.holds(name + "trees()", x.trees() > 0);
        dues.due(name + "odds(0, 0)", x.odds(0, 0), 1);
        dues.due(name + "odds(10, 0)", x.odds(10, 0), 0);
        shares(x, nodes, name);
        losses(x, name);
    }

    /** SHARE is a line's width times the RESISTANCE of its nodes; all together are as many as a tree has lines. */
    private void shares(ChanceNets x, int nodes, String name) {
        dues.about("Terms, SHARE of a LINE; RANK: LINES by SHARE");
        Fraction sum = Fraction.ZERO;
        for (int l = 0; l < x.count(1); l++) {
            int u = x.line(l, 0);
            int v = x.line(l, 1);
            Fraction share = Fraction.of(x.share(l, 0), x.share(l, 1));
            Fraction resists = Fraction.of(x.between(u, v, 1, 0) * x.line(l, 2), x.between(u, v, 1, 1));
            dues.holds(name + "share(" + l + ") by RESISTANCE", share.equals(resists));
            sum = sum.plus(share);
        }
        dues.holds(name + "all shares", sum.equals(Fraction.of(nodes - 1, 1)));
        for (int k = 0; k + 1 < x.count(1); k++) {
            int first = x.rank(k);
            int next = x.rank(k + 1);
            long more = x.share(first, 0) * x.share(next, 1) - x.share(next, 0) * x.share(first, 1);
            dues.holds(name + "rank(" + k + ") and the next one", more > 0 || more == 0 && first < next);
        }
    }

    /** What a loss would make is what cuts() does make. */
    private void losses(ChanceNets x, String name) {
        dues.about("Terms, WORST: the LINE without which HITTING is most; UNSEEN: being CUT, TREES would be n");
        int v = x.count(0) - 1;
        int worst = x.worst(0, v);
        int found = NONE;
        Fraction most = Fraction.ZERO;
        long firstRest = 0;
        int likeFirst = 0;
        for (int l = 0; l < x.count(1); l++) {
            x.cuts(l);
            long rest = x.trees();
            if (l == 0) {
                firstRest = rest;
            }
            likeFirst |= rest == firstRest ? 1 << l : 0;
            if (x.count(3) == 1) {
                Fraction steps = Fraction.of(x.hitting(0, v, 0), x.hitting(0, v, 1));
                if (steps.isMoreThan(most)) {
                    most = steps;
                    found = l;
                }
            }
            x.undo();
        }
        dues.due(name + "worst(0, " + v + ")", worst, found);
        x.sees(firstRest);
        dues.due(name + "unseen() of the first line's " + firstRest, x.unseen(), likeFirst);
    }

    // ---- REDUCED

    private void reduced(ChanceNets x, int nodes, int shape, String name) {
        dues.about("Terms, REDUCED between u, v");
        for (int u = 0; u < nodes; u++) {
            for (int v = u + 1; v < nodes; v++) {
                int left = lefts(shape, u, v);
                String call = name + "reduced(" + u + ", " + v + ", ";
                dues.due(call + "0), in whatever order", Integer.bitCount(left), 1);
                int lines = Integer.numberOfTrailingZeros(left);
                boolean one = lines == 1;
                dues.due(call + "0)", x.reduced(u, v, 0), lines);
                dues.due(call + "1)", x.reduced(u, v, 1), one ? x.between(u, v, 1, 0) : NONE);
                dues.due(call + "2)", x.reduced(v, u, 2), one ? x.between(u, v, 1, 1) : NONE);
            }
        }
    }

    /** By each node that can go in turn: there are fewer lines then, so this ends. */
    private int lefts(int shape, int u, int v) {
        int[] known = ends[pair(u, v)];
        if (known[shape] == 0) {
            int bits = 0;
            for (int x = 0; x < MOST_NODES; x++) {
                int[] others = neighbours(shape, x);
                if (x != u && x != v && (others.length == 1 || others.length == 2)) {
                    bits |= lefts(without(shape, x, others), u, v);
                }
            }
            known[shape] = bits == 0 ? 1 << Integer.bitCount(shape) : bits;
        }
        return known[shape];
    }

    private static int[] neighbours(int shape, int x) {
        int[] found = new int[MOST_NODES];
        int many = 0;
        for (int a = 0; a < MOST_NODES; a++) {
            if (joined(shape, x, a)) {
                found[many++] = a;
            }
        }
        return Arrays.copyOf(found, many);
    }

    private static int without(int shape, int x, int[] others) {
        int rest = shape;
        for (int a : others) {
            rest &= ~(1 << pair(x, a));
        }
        return others.length == 2 ? rest | 1 << pair(others[0], others[1]) : rest;
    }
}

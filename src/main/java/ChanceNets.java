import java.util.Arrays;

/** Walks by chance on a net of nodes and lines that have widths. */
public final class ChanceNets {
    public static final int BAD = -1, STATE = -2, FULL = -3, NONE = -9;

    private static final int FEWEST_NODES = 2;
    private static final int MOST_NODES = 6;
    private static final int MOST_LINES = 10;
    private static final int MOST_WIDTH = 9;
    private static final int MOST_LETTERS = 80;
    private static final int MOST_LETTER = 255;
    private static final int MOST_UNDONE = 12;
    private static final int MOST_STEPS = 6;
    private static final int MOST_SEEN = 6;
    private static final int MOST_IMAGES = 2;
    private static final int TENTHS = 10;
    private static final int FAULT_BASE = -10;

    private final Text text;
    private final Net now;
    /** What a text tells, till it has told all without a fault. */
    private final Net told;
    /** The net of now without one line. */
    private final Net less;
    /** For each line, the trees without it. */
    private final long[] rests;
    private final Past past;
    private final Balance balance;
    private final Walker walker;
    private final Smaller smaller;
    private final long[] seen;
    private int seenCount;
    private final Net[] images;
    private final boolean[] imageIsKept;

    public ChanceNets() {
        text = new Text();
        now = new Net();
        told = new Net();
        less = new Net();
        rests = new long[MOST_LINES];
        past = new Past();
        balance = new Balance();
        walker = new Walker();
        smaller = new Smaller();
        seen = new long[MOST_SEEN];
        images = new Net[MOST_IMAGES];
        imageIsKept = new boolean[MOST_IMAGES];
        for (int i = 0; i < MOST_IMAGES; i++) {
            images[i] = new Net();
        }
    }

    // ---- the net

    public int type(int letter) {
        if (letter < 0 || letter > MOST_LETTER) {
            return BAD;
        }
        return text.takes(letter) ? text.length : FULL;
    }

    public int clear() {
        int had = text.length;
        text.length = 0;
        return had;
    }

    public int net() {
        if (!text.tells(told)) {
            return FAULT_BASE - text.place;
        }
        now.copyFrom(told);
        past.known = 0;
        seenCount = 0;
        for (int i = 0; i < MOST_IMAGES; i++) {
            imageIsKept[i] = false;
        }
        text.length = 0;
        return text.items;
    }

    public int line(int l, int what) {
        if (!now.hasLine(l) || what < 0 || what > 2) {
            return BAD;
        }
        if (what == 0) {
            return now.lowOf(l);
        }
        return what == 1 ? now.highOf(l) : now.widthOf(l);
    }

    public int width(int u, int v) {
        if (!now.hasNode(u) || !now.hasNode(v)) {
            return BAD;
        }
        return u == v ? now.degree(u) : now.widthAt(u, v);
    }

    // ---- what is done

    public int lays(int u, int v, int w) {
        if (!areTwoNodes(u, v) || !isWidth(w)) {
            return BAD;
        }
        if (now.widthAt(u, v) != 0) {
            return STATE;
        }
        if (now.lines >= MOST_LINES) {
            return FULL;
        }
        change(u, v, w);
        return now.lines;
    }

    public int widens(int l, int w) {
        if (!now.hasLine(l) || !isWidth(w)) {
            return BAD;
        }
        int was = now.widthOf(l);
        if (was == w) {
            return STATE;
        }
        change(now.lowOf(l), now.highOf(l), w);
        return was;
    }

    public int cuts(int l) {
        if (!now.hasLine(l)) {
            return BAD;
        }
        change(now.lowOf(l), now.highOf(l), 0);
        return now.lines;
    }

    public int undo() {
        return past.takesBack(now) ? past.known : STATE;
    }

    // ---- walks

    public long hitting(int u, int v, int what) {
        if (!now.hasNode(u) || !now.hasNode(v) || !isPart(what)) {
            return BAD;
        }
        if (!now.hangs()) {
            return STATE;
        }
        return partOf(balance.stepSum(now, u, v), balance.treeSum(now), what);
    }

    public long between(int u, int v, int kind, int what) {
        if (!now.hasNode(u) || !now.hasNode(v) || kind < 0 || kind > 1 || !isPart(what)) {
            return BAD;
        }
        if (!now.hangs()) {
            return STATE;
        }
        long upper = balance.stepSum(now, u, v) + balance.stepSum(now, v, u);
        long lower = balance.treeSum(now);
        return partOf(upper, kind == 0 ? lower : lower * 2 * now.whole(), what);
    }

    public long ahead(int u, int a, int b, int what) {
        if (!now.hasNode(u) || !areTwoNodes(a, b) || !isPart(what)) {
            return BAD;
        }
        if (!now.hangs()) {
            return STATE;
        }
        return partOf(balance.pullSum(now, u, a, b), balance.pullSum(now, a, a, b), what);
    }

    public long walks(int u, int t, int kind) {
        if (!now.hasNode(u) || t < 0 || t > MOST_STEPS || kind < 0 || kind > 2) {
            return BAD;
        }
        walker.goes(now, u, t);
        return walker.sum(now, u, kind);
    }

    // ---- trees

    public long trees() {
        return balance.treeSum(now);
    }

    public long share(int l, int what) {
        if (!now.hasLine(l) || !isPart(what)) {
            return BAD;
        }
        if (!now.hangs()) {
            return STATE;
        }
        long all = balance.treeSum(now);
        return partOf(all - treesWithout(l), all, what);
    }

    public int rank(int k) {
        if (k < 0) {
            return BAD;
        }
        if (!now.hangs()) {
            return STATE;
        }
        countRests();
        for (int l = 0; l < now.lines; l++) {
            if (linesRankedAhead(l) == k) {
                return l;
            }
        }
        return NONE;
    }

    // ---- smaller nets, losses

    public long reduced(int u, int v, int what) {
        if (!areTwoNodes(u, v) || what < 0 || what > 2) {
            return BAD;
        }
        if (!now.hangs()) {
            return STATE;
        }
        smaller.reduces(now, u, v);
        int left = smaller.linesLeft();
        if (what == 0) {
            return left;
        }
        if (left != 1 || !smaller.joined(u, v)) {
            return NONE;
        }
        return what == 1 ? smaller.upperAt(u, v) : smaller.lowerAt(u, v);
    }

    public int worst(int u, int v) {
        if (!areTwoNodes(u, v)) {
            return BAD;
        }
        if (!now.hangs()) {
            return STATE;
        }
        int found = NONE;
        long mostUpper = 0;
        long mostLower = 1;
        for (int l = 0; l < now.lines; l++) {
            leaveOut(l);
            if (less.hangs()) {
                long upper = balance.stepSum(less, u, v);
                long lower = balance.treeSum(less);
                // Both products stay below 10 to the 17th: no wrap-around.
                if (upper * mostLower > mostUpper * lower) {
                    found = l;
                    mostUpper = upper;
                    mostLower = lower;
                }
            }
        }
        return found;
    }

    public long odds(int x, int what) {
        if (x < 0 || x > TENTHS || !isPart(what)) {
            return BAD;
        }
        int lines = now.lines;
        long upper = 0;
        for (int left = 0; left < 1 << lines; left++) {
            if (now.hangsBy(left)) {
                int many = Integer.bitCount(left);
                upper += power(TENTHS - x, many) * power(x, lines - many);
            }
        }
        return partOf(upper, power(TENTHS, lines), what);
    }

    // ---- which line

    public int sees(long n) {
        if (n < 0) {
            return BAD;
        }
        if (seenCount >= MOST_SEEN) {
            return FULL;
        }
        seen[seenCount] = n;
        seenCount++;
        return seenCount;
    }

    public int forget() {
        int had = seenCount;
        seenCount = 0;
        return had;
    }

    public int unseen() {
        countRests();
        int bits = 0;
        for (int l = 0; l < now.lines; l++) {
            if (allSeenAre(rests[l])) {
                bits |= 1 << l;
            }
        }
        return bits;
    }

    // ---- images

    public int keep(int image) {
        if (!isImage(image)) {
            return BAD;
        }
        images[image].copyFrom(now);
        imageIsKept[image] = true;
        return now.nodes;
    }

    public int back(int image) {
        if (!isImage(image)) {
            return BAD;
        }
        if (!imageIsKept[image]) {
            return STATE;
        }
        now.copyFrom(images[image]);
        past.known = 0;
        return now.nodes;
    }

    public int count(int what) {
        switch (what) {
            case 0: return now.nodes;
            case 1: return now.lines;
            case 2: return now.whole();
            case 3: return now.hangs() ? 1 : 0;
            case 4: return seenCount;
            case 5: return text.length;
            case 6: return past.known;
            default: return BAD;
        }
    }

    // ---- what the calls share

    private boolean areTwoNodes(int u, int v) {
        return now.hasNode(u) && now.hasNode(v) && u != v;
    }

    private static boolean isWidth(int w) {
        return w >= 1 && w <= MOST_WIDTH;
    }

    private static boolean isPart(int what) {
        return what == 0 || what == 1;
    }

    private static boolean isImage(int image) {
        return image >= 0 && image < MOST_IMAGES;
    }

    private void change(int u, int v, int w) {
        past.notes(u, v, now.widthAt(u, v));
        now.put(u, v, w);
    }

    private void leaveOut(int l) {
        less.copyFrom(now);
        less.put(now.lowOf(l), now.highOf(l), 0);
    }

    private long treesWithout(int l) {
        leaveOut(l);
        return balance.treeSum(less);
    }

    private void countRests() {
        for (int l = 0; l < now.lines; l++) {
            rests[l] = treesWithout(l);
        }
    }

    /** A line's share is more, the fewer trees are left without it. */
    private int linesRankedAhead(int l) {
        int many = 0;
        for (int other = 0; other < now.lines; other++) {
            if (rests[other] < rests[l] || rests[other] == rests[l] && other < l) {
                many++;
            }
        }
        return many;
    }

    private boolean allSeenAre(long n) {
        for (int i = 0; i < seenCount; i++) {
            if (seen[i] != n) {
                return false;
            }
        }
        return true;
    }

    /** The upper (0) or the lower (1) number of a fraction in least terms. */
    private static long partOf(long upper, long lower, int what) {
        long divisor = commonDivisor(upper, lower);
        return (what == 0 ? upper : lower) / divisor;
    }

    /** Never 0, so that it can divide. */
    private static long commonDivisor(long a, long b) {
        long more = Math.abs(a);
        long rest = Math.abs(b);
        // No two longs need as many as 100 rounds.
        for (int round = 0; round < 100 && rest != 0; round++) {
            long next = more % rest;
            more = rest;
            rest = next;
        }
        return more > 0 ? more : 1;
    }

    private static long power(int base, int times) {
        long product = 1;
        for (int i = 0; i < times; i++) {
            product *= base;
        }
        return product;
    }

    /** Nodes, and lines in the order of their numbers. */
    private static final class Net {
        int nodes;
        int lines;
        /** For two nodes both ways; 0 where there is no line, and for a node and itself. */
        final int[] widths;
        final int[] lows;
        final int[] highs;

        Net() {
            nodes = FEWEST_NODES;
            widths = new int[MOST_NODES * MOST_NODES];
            lows = new int[MOST_LINES];
            highs = new int[MOST_LINES];
        }

        void empty(int newNodes) {
            nodes = Math.max(FEWEST_NODES, Math.min(MOST_NODES, newNodes));
            lines = 0;
            Arrays.fill(widths, 0);
        }

        void copyFrom(Net other) {
            nodes = other.nodes;
            System.arraycopy(other.widths, 0, widths, 0, widths.length);
            numberLines();
        }

        boolean hasNode(int u) {
            return u >= 0 && u < nodes;
        }

        boolean hasLine(int l) {
            return l >= 0 && l < lines;
        }

        int lowOf(int l) {
            return hasLine(l) ? lows[l] : 0;
        }

        int highOf(int l) {
            return hasLine(l) ? highs[l] : 0;
        }

        int widthOf(int l) {
            return widthAt(lowOf(l), highOf(l));
        }

        int widthAt(int u, int v) {
            return hasNode(u) && hasNode(v) ? widths[u * MOST_NODES + v] : 0;
        }

        /** A width of 0 takes the line away. */
        void put(int u, int v, int w) {
            if (hasNode(u) && hasNode(v) && u != v) {
                widths[u * MOST_NODES + v] = w;
                widths[v * MOST_NODES + u] = w;
                numberLines();
            }
        }

        private void numberLines() {
            lines = 0;
            for (int u = 0; u < nodes; u++) {
                for (int v = u + 1; v < nodes; v++) {
                    if (widths[u * MOST_NODES + v] != 0 && lines < MOST_LINES) {
                        lows[lines] = u;
                        highs[lines] = v;
                        lines++;
                    }
                }
            }
        }

        int degree(int u) {
            if (!hasNode(u)) {
                return 0;
            }
            int sum = 0;
            for (int v = 0; v < nodes; v++) {
                sum += widths[u * MOST_NODES + v];
            }
            return sum;
        }

        int whole() {
            int sum = 0;
            for (int l = 0; l < lines; l++) {
                sum += widthOf(l);
            }
            return sum;
        }

        boolean hangs() {
            return hangsBy((1 << lines) - 1);
        }

        /** Whether the lines of these bits alone make all nodes hang together. */
        boolean hangsBy(int lineBits) {
            int all = (1 << nodes) - 1;
            int met = 1;
            // Each round meets one more node at least, if one can be met.
            for (int round = 1; round < nodes && met != all; round++) {
                for (int l = 0; l < lines; l++) {
                    int ends = 1 << lowOf(l) | 1 << highOf(l);
                    if ((lineBits >> l & 1) == 1 && (met & ends) != 0) {
                        met |= ends;
                    }
                }
            }
            return met == all;
        }
    }

    /** The text, and how it tells a net. */
    private static final class Text {
        private static final int NO_LETTER = -1;
        private static final int NO_NUMBER = -1;

        final int[] letters;
        int length;
        /** Where the telling stands: the fault, if it came to one. */
        int place;
        int items;

        Text() {
            letters = new int[MOST_LETTERS];
        }

        boolean takes(int letter) {
            if (length >= MOST_LETTERS) {
                return false;
            }
            letters[length] = letter;
            length++;
            return true;
        }

        boolean tells(Net net) {
            place = 0;
            items = 0;
            net.empty(FEWEST_NODES);
            skipBlanks();
            for (int i = 0; i < MOST_LETTERS && place < length; i++) {
                if (!tellsItem(net)) {
                    return false;
                }
                items++;
                skipBlanks();
            }
            return true;
        }

        private boolean tellsItem(Net net) {
            int letter = letterAt(place);
            if (letter == 'n' && items == 0) {
                place++;
                return tellsNodes(net);
            }
            if (letter == 'e' && net.lines < MOST_LINES) {
                place++;
                return tellsLine(net);
            }
            return false;
        }

        private boolean tellsNodes(Net net) {
            int many = numberAhead(FEWEST_NODES, MOST_NODES);
            if (many == NO_NUMBER) {
                return false;
            }
            place++;
            net.empty(many);
            return passesEnd();
        }

        private boolean tellsLine(Net net) {
            int u = numberAhead(0, net.nodes - 1);
            if (u == NO_NUMBER) {
                return false;
            }
            place++;
            int v = numberAhead(0, net.nodes - 1);
            if (v == NO_NUMBER || v == u || net.widthAt(u, v) != 0) {
                return false;
            }
            place++;
            int w = numberAhead(1, MOST_WIDTH);
            if (w == NO_NUMBER) {
                return false;
            }
            place++;
            net.put(u, v, w);
            return passesEnd();
        }

        private boolean passesEnd() {
            skipBlanks();
            if (letterAt(place) != ';') {
                return false;
            }
            place++;
            return true;
        }

        /** The next token, if it is a number of this range; the place is then at its one figure. */
        private int numberAhead(int least, int most) {
            skipBlanks();
            // A number of several figures is above 9, or has a 0 ahead.
            if (!isFigure(letterAt(place)) || isFigure(letterAt(place + 1))) {
                return NO_NUMBER;
            }
            int number = letterAt(place) - '0';
            return number >= least && number <= most ? number : NO_NUMBER;
        }

        private void skipBlanks() {
            while (place < length && letterAt(place) == ' ') {
                place++;
            }
        }

        private int letterAt(int at) {
            return at >= 0 && at < length ? letters[at] : NO_LETTER;
        }

        private static boolean isFigure(int letter) {
            return letter >= '0' && letter <= '9';
        }
    }

    /** What can be undone: for each change two nodes and the width that they had. */
    private static final class Past {
        final int[] lows;
        final int[] highs;
        final int[] widths;
        int known;

        Past() {
            lows = new int[MOST_UNDONE];
            highs = new int[MOST_UNDONE];
            widths = new int[MOST_UNDONE];
        }

        void notes(int u, int v, int was) {
            if (known >= MOST_UNDONE) {
                loseOldest();
            }
            lows[known] = u;
            highs[known] = v;
            widths[known] = was;
            known++;
        }

        private void loseOldest() {
            known = MOST_UNDONE - 1;
            System.arraycopy(lows, 1, lows, 0, known);
            System.arraycopy(highs, 1, highs, 0, known);
            System.arraycopy(widths, 1, widths, 0, known);
        }

        boolean takesBack(Net net) {
            if (known <= 0) {
                return false;
            }
            known--;
            net.put(lows[known], highs[known], widths[known]);
            return true;
        }
    }

    /**
     * Equations over all nodes of a net but one, the ground, where the unknown is 0: degree times
     * the unknown here, less each width times the unknown there, is a given number. By Cramer's
     * rule an unknown is one determinant by another, and that other one is the sum of the trees.
     */
    private static final class Balance {
        final long[][] grid;
        final int[] order;
        int size;

        Balance() {
            grid = new long[MOST_NODES - 1][MOST_NODES - 1];
            order = new int[MOST_NODES - 1];
        }

        long treeSum(Net net) {
            load(net, 0, 1);
            return determinant();
        }

        /** The steps that a walk takes on the average, times the sum of the trees. */
        long stepSum(Net net, int from, int to) {
            if (from == to) {
                return 0;
            }
            load(net, to, from);
            for (int row = 0; row < size; row++) {
                grid[row][size - 1] = net.degree(order[row]);
            }
            return determinant();
        }

        /** The unknown of a node where 1 is given at the source alone, times the sum of the trees. */
        long pullSum(Net net, int node, int source, int ground) {
            if (node == ground) {
                return 0;
            }
            load(net, ground, node);
            for (int row = 0; row < size; row++) {
                grid[row][size - 1] = order[row] == source ? 1 : 0;
            }
            return determinant();
        }

        /** The node asked for is the last one, so that its column is no pivot's. */
        private void load(Net net, int ground, int last) {
            size = 0;
            for (int u = 0; u < net.nodes; u++) {
                if (u != ground && u != last) {
                    addRow(u);
                }
            }
            addRow(last);
            for (int i = 0; i < size; i++) {
                for (int j = 0; j < size; j++) {
                    grid[i][j] = i == j ? net.degree(order[i]) : -net.widthAt(order[i], order[j]);
                }
            }
        }

        private void addRow(int node) {
            if (size < MOST_NODES - 1) {
                order[size] = node;
                size++;
            }
        }

        /** Without fractions (Bareiss): each division leaves no rest. */
        private long determinant() {
            long before = 1;
            for (int k = 0; k + 1 < size; k++) {
                long pivot = grid[k][k];
                // Only in a net that does not hang together a pivot can be 0, and all is 0 then.
                if (pivot == 0) {
                    return 0;
                }
                for (int i = k + 1; i < size; i++) {
                    for (int j = k + 1; j < size; j++) {
                        grid[i][j] = (grid[i][j] * pivot - grid[i][k] * grid[k][j]) / before;
                    }
                }
                before = pivot;
            }
            return size > 0 ? grid[size - 1][size - 1] : 0;
        }
    }

    /** Counts walks by where they are and which nodes (bits) they have met. */
    private static final class Walker {
        private static final int SETS = 1 << MOST_NODES;

        long[] here;
        long[] next;

        Walker() {
            here = new long[MOST_NODES * SETS];
            next = new long[MOST_NODES * SETS];
        }

        void goes(Net net, int from, int steps) {
            Arrays.fill(here, 0);
            if (!net.hasNode(from)) {
                return;
            }
            here[from * SETS + (1 << from)] = 1;
            for (int i = 0; i < steps; i++) {
                step(net);
            }
        }

        private void step(Net net) {
            Arrays.fill(next, 0);
            for (int u = 0; u < net.nodes; u++) {
                for (int met = 0; met < 1 << net.nodes; met++) {
                    long many = here[u * SETS + met];
                    if (many != 0) {
                        spread(net, u, met, many);
                    }
                }
            }
            long[] old = here;
            here = next;
            next = old;
        }

        private void spread(Net net, int u, int met, long many) {
            for (int v = 0; v < net.nodes; v++) {
                int at = v * SETS + (met | 1 << v);
                if (at < next.length) {
                    next[at] += many * net.widthAt(u, v);
                }
            }
        }

        long sum(Net net, int from, int kind) {
            long sum = 0;
            int all = (1 << net.nodes) - 1;
            for (int u = 0; u < net.nodes; u++) {
                for (int met = 0; met <= all; met++) {
                    if (kind == 0 || kind == 1 && u == from || kind == 2 && met == all) {
                        sum += here[u * SETS + met];
                    }
                }
            }
            return sum;
        }
    }

    /** A net of resistances, made smaller; a lower number of 0 says that there is no line. */
    private static final class Smaller {
        final long[] uppers;
        final long[] lowers;
        int nodes;

        Smaller() {
            uppers = new long[MOST_NODES * MOST_NODES];
            lowers = new long[MOST_NODES * MOST_NODES];
        }

        void reduces(Net net, int u, int v) {
            load(net);
            for (int round = 0; round < nodes; round++) {
                int x = lowestToGo(u, v);
                if (x == NONE) {
                    return;
                }
                drop(x);
            }
        }

        private void load(Net net) {
            nodes = net.nodes;
            for (int a = 0; a < nodes; a++) {
                for (int b = 0; b < nodes; b++) {
                    put(a, b, 1, net.widthAt(a, b));
                }
            }
        }

        private int lowestToGo(int u, int v) {
            for (int x = 0; x < nodes; x++) {
                int many = linesAt(x);
                if (x != u && x != v && (many == 1 || many == 2)) {
                    return x;
                }
            }
            return NONE;
        }

        private void drop(int x) {
            int a = neighbourFrom(x, 0);
            int b = neighbourFrom(x, a + 1);
            if (b < nodes) {
                long upper = upperAt(x, a) * lowerAt(x, b) + upperAt(x, b) * lowerAt(x, a);
                long lower = lowerAt(x, a) * lowerAt(x, b);
                long divisor = commonDivisor(upper, lower);
                laysBeside(a, b, upper / divisor, lower / divisor);
                put(x, b, 1, 0);
            }
            put(x, a, 1, 0);
        }

        private void laysBeside(int a, int b, long upper, long lower) {
            if (!joined(a, b)) {
                put(a, b, upper, lower);
                return;
            }
            long bothUpper = upper * upperAt(a, b);
            long bothLower = upper * lowerAt(a, b) + lower * upperAt(a, b);
            long divisor = commonDivisor(bothUpper, bothLower);
            put(a, b, bothUpper / divisor, bothLower / divisor);
        }

        /** The lowest neighbour of x that is not below this one; as many as there are nodes: none. */
        private int neighbourFrom(int x, int from) {
            for (int a = from; a < nodes; a++) {
                if (joined(x, a)) {
                    return a;
                }
            }
            return nodes;
        }

        private int linesAt(int x) {
            int many = 0;
            for (int a = 0; a < nodes; a++) {
                if (joined(x, a)) {
                    many++;
                }
            }
            return many;
        }

        int linesLeft() {
            int ends = 0;
            for (int x = 0; x < nodes; x++) {
                ends += linesAt(x);
            }
            return ends / 2;
        }

        boolean joined(int a, int b) {
            return lowerAt(a, b) != 0;
        }

        long upperAt(int a, int b) {
            return isPair(a, b) ? uppers[a * MOST_NODES + b] : 1;
        }

        long lowerAt(int a, int b) {
            return isPair(a, b) ? lowers[a * MOST_NODES + b] : 0;
        }

        private void put(int a, int b, long upper, long lower) {
            if (isPair(a, b)) {
                uppers[a * MOST_NODES + b] = upper;
                lowers[a * MOST_NODES + b] = lower;
                uppers[b * MOST_NODES + a] = upper;
                lowers[b * MOST_NODES + a] = lower;
            }
        }

        private boolean isPair(int a, int b) {
            return a >= 0 && a < nodes && b >= 0 && b < nodes;
        }
    }
}

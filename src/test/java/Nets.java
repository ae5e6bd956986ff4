import java.util.function.IntToLongFunction;

/** Makes objects for tests, and looks at all of one that calls can show. */
final class Nets {
    static final int BAD = -1, STATE = -2, FULL = -3, NONE = -9;
    /** Widths 2 (0 1), 6 (0 2), 3 (1 2), and a tail 4 (2 3). */
    static final String TRIANGLE = "n4;e0 1 2;e1 2 3;e0 2 6;e2 3 4;";
    /** 73 letters: as many lines as there may be, six nodes, all together. */
    static final String TEN = "n6;e0 1 1;e0 2 2;e0 3 3;e0 4 4;e0 5 5;e1 2 6;e1 3 7;e1 4 8;e1 5 9;e2 3 1;";
    /** 73 letters: five nodes, each with each, all as wide as may be. */
    static final String WIDEST = "n5;e0 1 9;e0 2 9;e0 3 9;e0 4 9;e1 2 9;e1 3 9;e1 4 9;e2 3 9;e2 4 9;e3 4 9;";

    private static final int MOST_NODES = 6;
    private static final int MOST_UNDONE = 12;
    private static final int MOST_SEEN = 6;

    private Nets() { }

    static ChanceNets types(ChanceNets x, String text) {
        for (int i = 0; i < text.length(); i++) {
            x.type(text.charAt(i));
        }
        return x;
    }

    static ChanceNets typed(String text) {
        return types(new ChanceNets(), text);
    }

    static ChanceNets told(String text) {
        ChanceNets x = typed(text);
        x.net();
        return x;
    }

    /** So many nodes, without lines. */
    static ChanceNets bare(int nodes) {
        return told("n" + nodes + ";");
    }

    /** So many nodes in a row, each joined with the next one. */
    static ChanceNets path(int nodes) {
        StringBuilder text = new StringBuilder("n" + nodes + ";");
        for (int u = 0; u + 1 < nodes; u++) {
            text.append('e').append(u).append(' ').append(u + 1).append(" 1;");
        }
        return told(text.toString());
    }

    static boolean isRefused(long answer) {
        return answer == BAD || answer == STATE || answer == FULL;
    }

    /** Numbers from least to most are taken, those beside them and far off BAD. */
    static void range(Dues dues, String call, int least, int most, IntToLongFunction answer) {
        for (int a = least; a <= most; a++) {
            dues.holds(call + " of " + a + " is taken", !isRefused(answer.applyAsLong(a)));
        }
        refused(dues, call, least, most, answer);
    }

    /** Numbers below the least and above the most are BAD, also where only their last bits are as told. */
    static void refused(Dues dues, String call, int least, int most, IntToLongFunction answer) {
        int[] off = {least - 1, most + 1, least - 2, most + 2, least - 256, most + 256, least + 65536,
            least + (1 << 30), Integer.MIN_VALUE + least, Integer.MIN_VALUE, Integer.MAX_VALUE};
        for (int a : off) {
            dues.due(call + " of " + a, answer.applyAsLong(a), BAD);
        }
    }

    /** Widths of all pairs of nodes; nothing is changed. */
    static String widths(ChanceNets x) {
        StringBuilder s = new StringBuilder();
        for (int u = 0; u < MOST_NODES; u++) {
            for (int v = u + 1; v < MOST_NODES; v++) {
                s.append(x.width(u, v)).append(' ');
            }
        }
        return s.toString();
    }

    /** What calls show of the lines, and which of them are UNSEEN; nothing is changed. */
    static String lines(ChanceNets x) {
        return widths(x) + "unseen " + x.unseen() + "; ";
    }

    static String counts(ChanceNets x) {
        StringBuilder s = new StringBuilder("counts");
        for (int what = 0; what <= 6; what++) {
            s.append(' ').append(x.count(what));
        }
        return s.append("; ").toString();
    }

    /**
     * All that calls can show, hidden things too: what is undone, the images, the text. Some 300
     * calls, behind which the object is used up.
     */
    static String everything(ChanceNets x) {
        StringBuilder s = new StringBuilder(counts(x)).append(lines(x));
        for (int i = 0; i <= MOST_UNDONE; i++) {
            int more = x.undo();
            s.append("\n  undo ").append(more).append(": ");
            if (more < 0) {
                break;
            }
            s.append(lines(x));
        }
        for (int image = 0; image < 2; image++) {
            s.append("\n  back ").append(x.back(image)).append(": ").append(lines(x));
        }
        for (int i = 0; i <= MOST_SEEN; i++) {
            s.append(x.sees(0)).append(' ');
        }
        s.append("\n  net ").append(x.net()).append(": ").append(counts(x)).append(lines(x));
        return s.append("clear ").append(x.clear()).toString();
    }
}

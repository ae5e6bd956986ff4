/** Every net of six nodes and ten lines, as wide as may be: where numbers are largest, none wraps around. */
public final class MostTest {
    private static final int PAIRS = 15;

    private static final Dues DUES = new Dues();

    public static void main(String[] args) {
        for (int bits = 0; bits < 1 << PAIRS && !DUES.tooMany(); bits++) {
            if (Integer.bitCount(bits) == 10) {
                compare(bits);
            }
        }
        DUES.end();
    }

    private static void compare(int bits) {
        ChanceNets x = new ChanceNets();
        PlainNet y = new PlainNet();
        x.type('n');
        x.type('6');
        x.type(';');
        x.net();
        y.type('n');
        y.type('6');
        y.type(';');
        y.net();
        int pair = 0;
        for (int u = 0; u < 6; u++) {
            for (int v = u + 1; v < 6; v++, pair++) {
                if ((bits >> pair & 1) == 1) {
                    // One line in some nets is narrow, so that fractions are less simple.
                    int w = (u + 2 * v + bits) % 13 == 0 ? 8 : 9;
                    x.lays(u, v, w);
                    y.lays(u, v, w);
                }
            }
        }
        String net = "net " + Integer.toBinaryString(bits) + " ";
        int u = bits % 6;
        int v = (u + 1 + bits / 6 % 5) % 6;
        DUES.due(net + "trees", x.trees(), y.trees());
        DUES.due(net + "worst", x.worst(u, v), y.worst(u, v));
        for (int what = 0; what < 2; what++) {
            DUES.due(net + "hitting", x.hitting(u, v, what), y.hitting(u, v, what));
            DUES.due(net + "commute", x.between(u, v, 0, what), y.between(u, v, 0, what));
            DUES.due(net + "resistance", x.between(u, v, 1, what), y.between(u, v, 1, what));
            DUES.due(net + "ahead", x.ahead((v + 1) % 6, u, v, what), y.ahead((v + 1) % 6, u, v, what));
            DUES.due(net + "share", x.share(u, what), y.share(u, what));
            DUES.due(net + "reduced", x.reduced(u, v, what + 1), y.reduced(u, v, what + 1));
        }
        if (bits % 50 == 0) {
            DUES.due(net + "odds", x.odds(3, 0), y.odds(3, 0));
            DUES.due(net + "walks", x.walks(u, 6, 0), y.walks(u, 6, 0));
        }
    }
}

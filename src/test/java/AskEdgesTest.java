/** Each sentence about walks, trees, smaller nets and losses that names a boundary, on both sides of it. */
public final class AskEdgesTest {
    private static final int BAD = Nets.BAD, STATE = Nets.STATE, NONE = Nets.NONE;
    /** Ten lines, of widths without order; 297682 trees. */
    private static final String MIXED =
        "n6;e0 1 9;e0 2 8;e0 3 9;e1 2 7;e1 3 9;e2 3 9;e1 4 9;e3 4 5;e4 5 1;e2 4 7;";
    /** Four nodes, each with each, and two more in a row, by narrow lines. */
    private static final String TAILED = "n6;e0 1 9;e0 2 9;e0 3 9;e1 2 9;e1 3 9;e2 3 9;e3 4 1;e4 5 1;";

    private final Dues dues = new Dues();

    public static void main(String[] args) {
        AskEdgesTest t = new AskEdgesTest();
        t.hittingNumbers();
        t.hittingOfItself();
        t.hittingLeastAndMost();
        t.betweenNumbers();
        t.betweenOfItself();
        t.betweenLeastAndMost();
        t.aheadNumbers();
        t.aheadAtOneOfThem();
        t.aheadUnlike();
        t.leastTerms();
        t.toldWhereItHangsTogether();
        t.walksNumbers();
        t.walksOfNoStep();
        t.walksThatMeetAll();
        t.walksMost();
        t.treesLeastAndMost();
        t.shareNumbers();
        t.shareLeastAndMost();
        t.rankNumbers();
        t.rankNone();
        t.rankOrder();
        t.reducedNumbers();
        t.reducedUnlike();
        t.reducedByOneLine();
        t.reducedByTwoLines();
        t.reducedBeside();
        t.reducedAsLongAsMayBe();
        t.reducedNotByThree();
        t.worstNumbers();
        t.worstUnlike();
        t.worstNone();
        t.worstLowest();
        t.worstHangs();
        t.oddsNumbers();
        t.oddsLeastAndMost();
        t.dues.end();
    }

    private interface OfWhat {
        long part(int what);
    }

    private void fraction(String call, OfWhat of, long upper, long lower) {
        dues.due(call + " upper", of.part(0), upper);
        dues.due(call + " lower", of.part(1), lower);
    }

    // ---- promise 11

    private void hittingNumbers() {
        dues.about("promise 11, HITTING, upper (what = 0), lower number (1); BAD");
        for (int n = 2; n <= 6; n++) {
            int nodes = n;
            Nets.range(dues, "hitting(u, 0, 0) of " + n, 0, n - 1, u -> Nets.path(nodes).hitting(u, 0, 0));
            Nets.range(dues, "hitting(0, v, 1) of " + n, 0, n - 1, v -> Nets.path(nodes).hitting(0, v, 1));
            Nets.range(dues, "hitting(u, u, 0) of " + n, 0, n - 1, u -> Nets.path(nodes).hitting(u, u, 0));
        }
        Nets.range(dues, "hitting(0, 1, what)", 0, 1, what -> Nets.path(2).hitting(0, 1, what));
        Nets.range(dues, "hitting(0, 0, what)", 0, 1, what -> Nets.path(2).hitting(0, 0, what));
    }

    private void hittingOfItself() {
        dues.about("Terms, HITTING (0, if u is v)");
        for (int n = 2; n <= 6; n++) {
            ChanceNets x = Nets.path(n);
            for (int u = 0; u < n; u++) {
                int node = u;
                fraction("hitting(" + u + ", " + u + ")", what -> x.hitting(node, node, what), 0, 1);
            }
            // From the end of a row, d steps away: d squared.
            fraction("hitting(0, 1)", what -> x.hitting(0, 1, what), 1, 1);
            long far = n - 1;
            fraction("hitting() of the ends", what -> x.hitting(0, (int) far, what), far * far, 1);
            fraction("hitting() of the ends back", what -> x.hitting((int) far, 0, what), far * far, 1);
        }
    }

    private void hittingLeastAndMost() {
        dues.about("promise 11, HITTING of wide lines");
        fraction("two nodes", what -> Nets.told("e0 1 9;").hitting(1, 0, what), 1, 1);
        fraction("each with each", what -> Nets.told(Nets.WIDEST).hitting(4, 2, what), 4, 1);
        fraction("to the end of a tail", what -> Nets.told(TAILED).hitting(0, 5, what), 223, 1);
        fraction("from the end of a tail", what -> Nets.told(TAILED).hitting(5, 0, what), 65, 9);
        fraction("of mixed lines", what -> Nets.told(MIXED).hitting(0, 5, what), 22610118, 148841);
        fraction("of mixed lines back", what -> Nets.told(MIXED).hitting(5, 0, what), 1001221, 148841);
        fraction("of ten lines", what -> Nets.told(Nets.TEN).hitting(5, 2, what), 110710, 10787);
    }

    // ---- promise 12

    private void betweenNumbers() {
        dues.about("promise 12, COMMUTE (kind 0), RESISTANCE (1); BAD");
        for (int n = 2; n <= 6; n++) {
            int nodes = n;
            Nets.range(dues, "between(u, 0, 0, 0) of " + n, 0, n - 1, u -> Nets.path(nodes).between(u, 0, 0, 0));
            Nets.range(dues, "between(0, v, 1, 1) of " + n, 0, n - 1, v -> Nets.path(nodes).between(0, v, 1, 1));
        }
        Nets.range(dues, "between(0, 1, kind, 0)", 0, 1, kind -> Nets.path(2).between(0, 1, kind, 0));
        Nets.range(dues, "between(0, 0, kind, 1)", 0, 1, kind -> Nets.path(2).between(0, 0, kind, 1));
        Nets.range(dues, "between(0, 1, 0, what)", 0, 1, what -> Nets.path(2).between(0, 1, 0, what));
        Nets.range(dues, "between(1, 1, 1, what)", 0, 1, what -> Nets.path(2).between(1, 1, 1, what));
    }

    private void betweenOfItself() {
        dues.about("Terms, COMMUTE and RESISTANCE of one and itself");
        for (int n = 2; n <= 6; n++) {
            ChanceNets x = Nets.path(n);
            for (int u = 0; u < n; u++) {
                int node = u;
                fraction("COMMUTE", what -> x.between(node, node, 0, what), 0, 1);
                fraction("RESISTANCE", what -> x.between(node, node, 1, what), 0, 1);
            }
        }
    }

    private void betweenLeastAndMost() {
        dues.about("Terms, RESISTANCE: COMMUTE by twice WHOLE");
        for (int w = 1; w <= 9; w++) {
            String text = "e0 1 " + w + ";";
            int width = w;
            fraction("COMMUTE of a line", what -> Nets.told(text).between(0, 1, 0, what), 2, 1);
            fraction("RESISTANCE of a line", what -> Nets.told(text).between(1, 0, 1, what), 1, width);
        }
        fraction("RESISTANCE of five in a row", what -> Nets.path(6).between(0, 5, 1, what), 5, 1);
        fraction("COMMUTE of five in a row", what -> Nets.path(6).between(0, 5, 0, what), 50, 1);
        fraction("COMMUTE by a tail", what -> Nets.told(TAILED).between(0, 5, 0, what), 2072, 9);
        fraction("RESISTANCE by a tail", what -> Nets.told(TAILED).between(0, 5, 1, what), 37, 18);
        fraction("COMMUTE of mixed lines", what -> Nets.told(MIXED).between(5, 0, 0, what), 23611339, 148841);
        fraction("RESISTANCE of mixed lines", what -> Nets.told(MIXED).between(5, 0, 1, what), 323443, 297682);
    }

    // ---- promise 13

    private void aheadNumbers() {
        dues.about("promise 13, AHEAD, upper (what = 0), lower number (1); BAD");
        for (int n = 2; n <= 6; n++) {
            int nodes = n;
            Nets.range(dues, "ahead(u, 0, 1, 0) of " + n, 0, n - 1, u -> Nets.path(nodes).ahead(u, 0, 1, 0));
            Nets.range(dues, "ahead(0, a, other, 0) of " + n, 0, n - 1,
                a -> Nets.path(nodes).ahead(0, a, a == 0 ? 1 : 0, 0));
            Nets.range(dues, "ahead(0, other, b, 1) of " + n, 0, n - 1,
                b -> Nets.path(nodes).ahead(0, b == 0 ? 1 : 0, b, 1));
        }
        Nets.range(dues, "ahead(0, 0, 1, what)", 0, 1, what -> Nets.path(2).ahead(0, 0, 1, what));
        Nets.range(dues, "ahead(1, 0, 2, what)", 0, 1, what -> Nets.path(3).ahead(1, 0, 2, what));
    }

    private void aheadAtOneOfThem() {
        dues.about("Terms, AHEAD (u at a: 1, at b: 0)");
        for (int n = 2; n <= 6; n++) {
            ChanceNets x = Nets.path(n);
            for (int a = 0; a < n; a++) {
                int at = a;
                int other = (a + 1) % n;
                fraction("at a", what -> x.ahead(at, at, other, what), 1, 1);
                fraction("at b", what -> x.ahead(at, other, at, what), 0, 1);
            }
        }
        // Behind a there is no way to b but by a, and the other way round.
        fraction("behind a", what -> Nets.path(4).ahead(0, 1, 3, what), 1, 1);
        fraction("behind b", what -> Nets.path(4).ahead(3, 0, 2, what), 0, 1);
        fraction("next to a", what -> Nets.path(6).ahead(1, 0, 5, what), 4, 5);
        fraction("next to b", what -> Nets.path(6).ahead(4, 0, 5, what), 1, 5);
        fraction("of mixed lines", what -> Nets.told(MIXED).ahead(2, 0, 5, what), 311804, 323443);
        fraction("of mixed lines, at a tail", what -> Nets.told(MIXED).ahead(5, 0, 3, what), 2680, 8023);
    }

    private void aheadUnlike() {
        dues.about("promise 13, BAD (a is b, too)");
        for (int a = 0; a < 6; a++) {
            for (int u = 0; u < 6; u++) {
                dues.due("ahead(" + u + ", " + a + ", " + a + ", 0)", Nets.path(6).ahead(u, a, a, 0), BAD);
            }
        }
    }

    private void leastTerms() {
        dues.about("Terms, All are fractions, in least terms");
        ChanceNets x = Nets.told("n3;e0 1 6;e1 2 6;e0 2 6;");
        fraction("hitting", what -> x.hitting(0, 1, what), 2, 1);
        fraction("commute", what -> x.between(0, 1, 0, what), 4, 1);
        fraction("resistance", what -> x.between(0, 1, 1, what), 1, 9);
        fraction("ahead", what -> x.ahead(0, 1, 2, what), 1, 2);
        fraction("share", what -> x.share(0, what), 2, 3);
        fraction("reduced", what -> x.reduced(0, 1, what + 1), 1, 9);
        fraction("odds", what -> x.odds(5, what), 1, 2);
        fraction("odds of a row", what -> Nets.path(6).odds(5, what), 1, 32);
    }

    // ---- what is told where the net hangs together

    private interface Call {
        long answer(ChanceNets x);
    }

    private void toldWhereItHangsTogether() {
        dues.about("Terms, All but ODDS, WALKS, TREES is told just where the net HANGS TOGETHER");
        Call[] told = {
            x -> x.hitting(0, 1, 0), x -> x.hitting(1, 1, 1), x -> x.between(0, 1, 0, 0),
            x -> x.between(0, 0, 1, 1), x -> x.ahead(0, 0, 1, 0), x -> x.ahead(1, 0, 1, 1),
            x -> x.rank(0), x -> x.reduced(0, 1, 0), x -> x.reduced(0, 1, 1), x -> x.worst(0, 1)};
        Call[] always = {
            x -> x.odds(5, 0), x -> x.odds(0, 1), x -> x.walks(0, 0, 0), x -> x.walks(0, 6, 2),
            x -> x.trees(), x -> x.unseen(), x -> x.sees(0), x -> x.forget(), x -> x.keep(0),
            x -> x.back(0)};
        for (int n = 2; n <= 6; n++) {
            ChanceNets whole = Nets.path(n);
            ChanceNets parted = Nets.path(n);
            // The last line, so that nodes 0 and 1 are still joined where there are more than two.
            parted.cuts(n - 2);
            for (int i = 0; i < told.length; i++) {
                dues.holds("call " + i + " of " + n + " is told", !Nets.isRefused(told[i].answer(whole)));
                dues.due("call " + i + " of " + n, told[i].answer(parted), STATE);
            }
            for (int i = 0; i < always.length; i++) {
                dues.holds("other call " + i + " of " + n, !Nets.isRefused(always[i].answer(whole)));
                dues.holds("other call " + i + " of " + n + ", parted", !Nets.isRefused(always[i].answer(parted)));
            }
        }
        ChanceNets x = Nets.told("n3;e0 1 1;");
        dues.due("share(0, 0) of a node alone", x.share(0, 0), STATE);
        dues.due("share(0, 1) of a node alone", x.share(0, 1), STATE);
        x.lays(1, 2, 1);
        dues.due("share(0, 0) where it hangs", x.share(0, 0), 1);
        x.undo();
        dues.due("share(0, 0) where it does not any more", x.share(0, 0), STATE);
        dues.due("rank() of ten lines and a node alone", Nets.told(Nets.WIDEST.replace("n5", "n6")).rank(0), STATE);
    }

    // ---- promise 14

    private void walksNumbers() {
        dues.about("promise 14, WALKS of t STEPS (0 .. 6) from u, of a kind (0 to 2); BAD");
        for (int n = 2; n <= 6; n++) {
            int nodes = n;
            Nets.range(dues, "walks(u, 1, 0) of " + n, 0, n - 1, u -> Nets.path(nodes).walks(u, 1, 0));
            Nets.range(dues, "walks(u, 0, 2) of bare " + n, 0, n - 1, u -> Nets.bare(nodes).walks(u, 0, 2));
        }
        Nets.range(dues, "walks(0, t, 0)", 0, 6, t -> Nets.path(2).walks(0, t, 0));
        Nets.range(dues, "walks(5, t, 2)", 0, 6, t -> Nets.told(Nets.TEN).walks(5, t, 2));
        Nets.range(dues, "walks(0, 1, kind)", 0, 2, kind -> Nets.path(2).walks(0, 1, kind));
        Nets.range(dues, "walks(0, 0, kind)", 0, 2, kind -> Nets.bare(6).walks(0, 0, kind));
    }

    private void walksOfNoStep() {
        dues.about("Terms, one of 0 STEPS once");
        for (int n = 2; n <= 6; n++) {
            for (int u = 0; u < n; u++) {
                for (ChanceNets x : new ChanceNets[] {Nets.path(n), Nets.bare(n)}) {
                    dues.due("walks(" + u + ", 0, 0)", x.walks(u, 0, 0), 1);
                    dues.due("walks(" + u + ", 0, 1)", x.walks(u, 0, 1), 1);
                    dues.due("walks(" + u + ", 0, 2)", x.walks(u, 0, 2), 0);
                }
                dues.due("walks(" + u + ", 1, 0) without lines", Nets.bare(n).walks(u, 1, 0), 0);
                dues.due("walks(" + u + ", 1, 1)", Nets.path(n).walks(u, 1, 1), 0);
            }
        }
    }

    private void walksThatMeetAll() {
        dues.about("Terms, those that are at each NODE at some time (2)");
        for (int n = 2; n <= 6; n++) {
            ChanceNets x = Nets.path(n);
            for (int t = 0; t <= n - 2; t++) {
                dues.due("walks(0, " + t + ", 2) of " + n, x.walks(0, t, 2), 0);
            }
            dues.due("walks(0, " + (n - 1) + ", 2) of " + n, x.walks(0, n - 1, 2), 1);
        }
        ChanceNets row = Nets.path(6);
        dues.due("walks(1, 5, 2) of a row", row.walks(1, 5, 2), 0);
        dues.due("walks(1, 6, 2) of a row", row.walks(1, 6, 2), 1);
        dues.due("walks(2, 6, 2) of a row", row.walks(2, 6, 2), 0);
        ChanceNets alone = Nets.told(Nets.WIDEST.replace("n5", "n6"));
        dues.due("walks(0, 6, 2) where it does not hang", alone.walks(0, 6, 2), 0);
        dues.due("walks(0, 6, 0) where it does not hang", alone.walks(0, 6, 0), 2176782336L);
        dues.due("walks(5, 1, 0) of a node alone", alone.walks(5, 1, 0), 0);
        dues.due("walks(5, 6, 1) of a node alone", alone.walks(5, 6, 1), 0);
    }

    private void walksMost() {
        dues.about("promise 14, the most WALKS, beyond 31 bits");
        ChanceNets x = Nets.told(Nets.WIDEST);
        dues.due("walks(0, 6, 0)", x.walks(0, 6, 0), 2176782336L);
        dues.due("walks(4, 6, 1)", x.walks(4, 6, 1), 435781620);
        dues.due("walks(4, 6, 2)", x.walks(4, 6, 2), 829047960);
        ChanceNets ten = Nets.told(Nets.TEN);
        dues.due("walks(1, 6, 0)", ten.walks(1, 6, 0), 35447438);
        dues.due("walks(1, 6, 1)", ten.walks(1, 6, 1), 18773651);
        dues.due("walks(2, 6, 2)", ten.walks(2, 6, 2), 1040648);
        // A smaller count behind a larger one: nothing is left of the larger.
        dues.due("walks(2, 0, 0) then", ten.walks(2, 0, 0), 1);
        dues.due("walks(2, 1, 0) then", ten.walks(2, 1, 0), 9);
    }

    // ---- promises 15 to 17

    private void treesLeastAndMost() {
        dues.about("promise 15, TREES: all NODES, without a ring");
        for (int n = 2; n <= 6; n++) {
            dues.due("trees() without lines of " + n, Nets.bare(n).trees(), 0);
            dues.due("trees() of a row of " + n, Nets.path(n).trees(), 1);
            ChanceNets x = Nets.path(n);
            x.cuts(0);
            dues.due("trees() of a row without its first line", x.trees(), 0);
            x.undo();
            x.cuts(n - 2);
            dues.due("trees() of a row without its last line", x.trees(), 0);
            x.undo();
            if (n > 2) {
                x.lays(0, n - 1, 1);
                dues.due("trees() of a ring of " + n, x.trees(), n);
            }
        }
        dues.due("trees() of one line", Nets.told("e0 1 9;").trees(), 9);
        dues.due("trees() of each with each", Nets.told(Nets.WIDEST).trees(), 820125);
        dues.due("trees() of ten lines", Nets.told(Nets.TEN).trees(), 172592);
        dues.due("trees() of mixed lines", Nets.told(MIXED).trees(), 297682);
        dues.due("trees() with a node alone", Nets.told(Nets.WIDEST.replace("n5", "n6")).trees(), 0);
        dues.due("trees() of two rings", Nets.told("n6;e0 1 1;e1 2 1;e0 2 1;e3 4 1;e4 5 1;e3 5 1;").trees(), 0);
        dues.due("trees() of node 0 alone", Nets.told("n4;e1 2 1;e2 3 1;e1 3 1;").trees(), 0);
        dues.due("trees() of node 1 alone", Nets.told("n4;e0 2 1;e2 3 1;e0 3 1;").trees(), 0);
    }

    private void shareNumbers() {
        dues.about("promise 16, SHARE of a LINE, upper (what = 0), lower number (1); BAD");
        Nets.range(dues, "share(l, 0) of one line", 0, 0, l -> Nets.path(2).share(l, 0));
        Nets.range(dues, "share(l, 1) of five lines", 0, 4, l -> Nets.path(6).share(l, 1));
        Nets.range(dues, "share(l, 0) of ten lines", 0, 9, l -> Nets.told(Nets.TEN).share(l, 0));
        Nets.range(dues, "share(0, what)", 0, 1, what -> Nets.path(2).share(0, what));
        Nets.refused(dues, "share(l, 0) without lines", 0, -1, l -> Nets.bare(2).share(l, 0));
    }

    private void shareLeastAndMost() {
        dues.about("Terms, SHARE: of all TREES those that have it");
        for (int l = 0; l < 5; l++) {
            int line = l;
            fraction("share of a line of a row", what -> Nets.path(6).share(line, what), 1, 1);
        }
        ChanceNets x = Nets.told("n3;e0 1 1;e0 2 9;e1 2 9;");
        fraction("share of a narrow line", what -> x.share(0, what), 2, 11);
        fraction("share of a wide line", what -> x.share(2, what), 10, 11);
        long[][] want = {{147, 1541}, {7127, 21574}, {783, 1876}, {775, 1541}, {23915, 43148},
            {15333, 21574}, {4323, 6164}, {1158, 1541}, {32463, 43148}, {1983, 10787}};
        for (int l = 0; l < 10; l++) {
            int line = l;
            fraction("share(" + l + ")", what -> Nets.told(Nets.TEN).share(line, what), want[l][0], want[l][1]);
        }
    }

    private void rankNumbers() {
        dues.about("promise 17, The k-th LINE of RANK (0 on); BAD");
        for (int k : new int[] {-1, -2, -9, -10, Integer.MIN_VALUE}) {
            dues.due("rank(" + k + ")", Nets.told(Nets.TEN).rank(k), BAD);
            dues.due("rank(" + k + ") of one line", Nets.path(2).rank(k), BAD);
        }
        dues.due("rank(0) of one line", Nets.path(2).rank(0), 0);
    }

    private void rankNone() {
        dues.about("promise 17, NONE");
        for (int n = 2; n <= 6; n++) {
            dues.due("rank() of the last of " + n, Nets.path(n).rank(n - 2), n - 2);
            dues.due("rank() behind the last of " + n, Nets.path(n).rank(n - 1), NONE);
        }
        ChanceNets x = Nets.told(Nets.TEN);
        dues.due("rank(9)", x.rank(9), 0);
        for (int k : new int[] {10, 11, 15, 256, 65536, Integer.MAX_VALUE}) {
            dues.due("rank(" + k + ")", x.rank(k), NONE);
        }
        dues.due("rank(1) where it does not hang, STATE and NONE", Nets.told("n3;e0 1 1;").rank(1), STATE);
    }

    private void rankOrder() {
        dues.about("Terms, RANK: the most first, of like ones the lower first");
        int[] want = {8, 7, 5, 6, 4, 3, 2, 1, 9, 0};
        for (int k = 0; k < 10; k++) {
            dues.due("rank(" + k + ") of ten lines", Nets.told(Nets.TEN).rank(k), want[k]);
            dues.due("rank(" + k + ") of like ones", Nets.told(Nets.WIDEST).rank(k), k);
        }
        // Two like ones behind one that is more, and two like ones ahead of one that is less.
        int[] moreLast = {2, 0, 1};
        int[] lessFirst = {1, 2, 0};
        for (int k = 0; k < 3; k++) {
            dues.due("rank(" + k + ") of 1 1 2", Nets.told("n3;e0 1 1;e0 2 1;e1 2 2;").rank(k), moreLast[k]);
            dues.due("rank(" + k + ") of 1 2 2", Nets.told("n3;e0 1 1;e0 2 2;e1 2 2;").rank(k), lessFirst[k]);
        }
    }

    // ---- promise 18

    private void reducedNumbers() {
        dues.about("promise 18, REDUCED: 0, 1 upper, 2 lower number; BAD");
        for (int n = 2; n <= 6; n++) {
            int nodes = n;
            Nets.range(dues, "reduced(u, other, 0) of " + n, 0, n - 1,
                u -> Nets.path(nodes).reduced(u, u == 0 ? 1 : 0, 0));
            Nets.range(dues, "reduced(other, v, 2) of " + n, 0, n - 1,
                v -> Nets.path(nodes).reduced(v == 0 ? 1 : 0, v, 2));
        }
        Nets.range(dues, "reduced(0, 1, what)", 0, 2, what -> Nets.path(2).reduced(0, 1, what));
        Nets.range(dues, "reduced(0, 1, what) of ten lines", 0, 2, what -> Nets.told(Nets.TEN).reduced(0, 1, what));
    }

    private void reducedUnlike() {
        dues.about("promise 18, BAD (u is v, too)");
        for (int u = 0; u < 6; u++) {
            for (int what = 0; what < 3; what++) {
                dues.due("reduced(" + u + ", " + u + ", " + what + ")", Nets.path(6).reduced(u, u, what), BAD);
            }
        }
    }

    private void reduced(String text, int u, int v, long upper, long lower) {
        ChanceNets x = Nets.told(text);
        dues.due("lines left of " + text, x.reduced(u, v, 0), 1);
        fraction(text, what -> x.reduced(u, v, what + 1), upper, lower);
        fraction("back, " + text, what -> x.reduced(v, u, what + 1), upper, lower);
        fraction("by hitting, " + text, what -> x.between(u, v, 1, what), upper, lower);
        dues.same(text + " is not changed", Nets.lines(x), Nets.lines(Nets.told(text)));
    }

    private void left(String text, int u, int v, int lines) {
        ChanceNets x = Nets.told(text);
        dues.due("lines left of " + text, x.reduced(u, v, 0), lines);
        dues.due("upper of " + text, x.reduced(u, v, 1), NONE);
        dues.due("lower of " + text, x.reduced(u, v, 2), NONE);
    }

    private void reducedByOneLine() {
        dues.about("Terms, a NODE (but u, v) with one LINE goes");
        reduced("e0 1 9;", 0, 1, 1, 9);
        reduced("n3;e0 1 5;e1 2 7;", 0, 1, 1, 5);
        reduced("n3;e0 1 5;e1 2 7;", 1, 2, 1, 7);
        reduced("n6;e0 1 2;e1 2 3;e2 3 4;e3 4 5;e4 5 6;", 2, 3, 1, 4);
        reduced("n6;e5 0 2;e5 1 3;e5 2 4;e5 3 5;e5 4 6;", 5, 2, 1, 4);
        reduced("n6;e0 1 2;e0 2 3;e0 3 4;e0 4 5;e0 5 6;", 1, 2, 5, 6);
    }

    private void reducedByTwoLines() {
        dues.about("Terms, with just two LINES it goes: p and q together");
        reduced("n3;e0 1 5;e1 2 7;", 0, 2, 12, 35);
        reduced("n3;e0 1 9;e1 2 9;", 2, 0, 2, 9);
        reduced("n6;e0 3 2;e3 1 4;e1 5 8;e5 2 1;e2 4 1;", 0, 4, 23, 8);
        reduced("n6;e0 1 5;e1 2 6;e2 3 7;e3 4 8;e4 5 9;", 0, 5, 1879, 2520);
    }

    private void reducedBeside() {
        dues.about("Terms, beside one that there is (then both as one)");
        reduced("n3;e0 1 2;e1 2 3;e0 2 6;", 0, 1, 1, 4);
        reduced("n3;e0 1 1;e1 2 1;e0 2 1;", 0, 2, 2, 3);
        // A ring: both ways beside each other, though no line joins u and v.
        reduced("n4;e0 1 1;e1 2 1;e2 3 1;e3 0 1;", 0, 2, 1, 1);
        reduced("n4;e0 1 1;e1 2 1;e2 3 1;e3 0 1;", 0, 1, 3, 4);
        reduced("n5;e0 2 2;e2 1 2;e0 3 3;e3 1 3;e0 4 4;e4 1 4;e0 1 5;", 0, 1, 2, 19);
    }

    private void reducedAsLongAsMayBe() {
        dues.about("Terms, as long as may be");
        // Node 0 has three lines till node 4 has gone, then two.
        reduced("n5;e0 1 1;e0 2 1;e0 4 1;e4 2 1;e2 3 1;", 1, 3, 8, 3);
        // A tail of three, told from its far end.
        reduced("n6;e0 1 1;e1 2 1;e2 3 1;e3 4 1;e3 5 1;e4 5 1;", 4, 5, 2, 3);
        // All go but u, v, in a net that is met from both ends.
        reduced("n6;e0 1 1;e0 2 1;e1 2 1;e1 3 1;e2 3 1;e3 4 1;e3 5 1;e4 5 1;", 3, 5, 2, 3);
        left("n6;e0 1 1;e1 2 1;e2 3 1;e3 4 1;e4 5 1;e2 4 1;e2 5 1;e3 5 1;", 4, 5, 6);
    }

    private void reducedNotByThree() {
        dues.about("promise 18, NONE: not just one, between u and v");
        // Both nodes between have three lines.
        left("n4;e0 1 1;e0 2 1;e1 2 1;e1 3 1;e2 3 1;", 0, 3, 5);
        reduced("n4;e0 1 1;e0 2 1;e1 2 1;e1 3 1;e2 3 1;", 1, 2, 1, 2);
        reduced("n4;e0 1 1;e0 2 1;e1 3 1;e2 3 1;", 0, 3, 1, 1);
        left("n4;e0 1 1;e0 2 1;e0 3 1;e1 2 1;e1 3 1;e2 3 1;", 0, 1, 6);
        left(TAILED, 0, 1, 6);
        left(TAILED, 0, 5, 7);
        left(TAILED, 0, 4, 7);
        left(TAILED, 4, 5, 8);
        left(Nets.WIDEST, 0, 4, 10);
    }

    // ---- promise 19

    private void worstNumbers() {
        dues.about("promise 19, WORST of u, v; BAD");
        for (int n = 2; n <= 6; n++) {
            int nodes = n;
            Nets.range(dues, "worst(u, other) of " + n, 0, n - 1, u -> Nets.path(nodes).worst(u, u == 0 ? 1 : 0));
            Nets.range(dues, "worst(other, v) of " + n, 0, n - 1, v -> Nets.path(nodes).worst(v == 0 ? 1 : 0, v));
        }
    }

    private void worstUnlike() {
        dues.about("promise 19, BAD (u is v, too)");
        for (int u = 0; u < 6; u++) {
            dues.due("worst(" + u + ", " + u + ")", Nets.path(6).worst(u, u), BAD);
            dues.due("worst(" + u + ", " + u + ") of ten lines", Nets.told(Nets.TEN).worst(u, u), BAD);
        }
    }

    private void worstNone() {
        dues.about("promise 19, NONE");
        for (int n = 2; n <= 6; n++) {
            ChanceNets x = Nets.path(n);
            dues.due("worst() of a row of " + n, x.worst(0, n - 1), NONE);
            if (n > 2) {
                x.lays(0, n - 1, 1);
                dues.due("worst() of a ring of " + n, x.worst(0, n - 1), 1);
            }
        }
        dues.due("worst() where it does not hang", Nets.bare(2).worst(0, 1), STATE);
    }

    private void worstLowest() {
        dues.about("Terms, HITTING of u, v is most, of several the lowest");
        dues.due("worst() of two like ones, the last", Nets.told("n4;e0 1 1;e1 2 1;e2 3 1;e0 3 1;").worst(0, 2), 2);
        // Node 3 has one line, to node 2: one step, whichever other line is gone.
        dues.due("worst() of three like ones of 1 step", Nets.told(Nets.TRIANGLE).worst(3, 2), 0);
        dues.due("worst() of the first", Nets.told("n3;e0 1 9;e0 2 1;e1 2 1;").worst(0, 1), 0);
        dues.due("worst() of the last", Nets.told(Nets.WIDEST).worst(3, 4), 9);
        dues.due("worst() of the last back", Nets.told(Nets.WIDEST).worst(4, 3), 9);
        dues.due("worst(3, 2) of ten lines", Nets.told(Nets.TEN).worst(3, 2), 5);
        dues.due("worst(0, 5) of mixed lines", Nets.told(MIXED).worst(0, 5), 8);
        dues.due("worst(5, 0) of mixed lines", Nets.told(MIXED).worst(5, 0), 0);
        dues.due("worst(3, 1) of mixed lines", Nets.told(MIXED).worst(3, 1), 4);
    }

    private void worstHangs() {
        dues.about("Terms, those without which the net does not hang together do not count");
        ChanceNets x = Nets.told(Nets.TRIANGLE);
        dues.due("worst(0, 3), by a line that must stay", x.worst(0, 3), 1);
        dues.due("worst(3, 0), by a line that must stay", x.worst(3, 0), 1);
        dues.due("worst(2, 3), one that must stay between", x.worst(2, 3), 0);
        x.cuts(0);
        dues.due("worst(0, 3) where all must stay", x.worst(0, 3), NONE);
    }

    // ---- promise 20

    private void oddsNumbers() {
        dues.about("promise 20, ODDS by x (0 .. 10), upper (what = 0), lower number (1); BAD");
        Nets.range(dues, "odds(x, 0)", 0, 10, a -> Nets.path(2).odds(a, 0));
        Nets.range(dues, "odds(x, 1) without lines", 0, 10, a -> Nets.bare(6).odds(a, 1));
        Nets.range(dues, "odds(x, 1) of ten lines", 0, 10, a -> Nets.told(Nets.TEN).odds(a, 1));
        Nets.range(dues, "odds(5, what)", 0, 1, what -> Nets.path(2).odds(5, what));
        Nets.range(dues, "odds(0, what) without lines", 0, 1, what -> Nets.bare(2).odds(0, what));
    }

    private void oddsLeastAndMost() {
        dues.about("Terms, each LINE is CUT by x of 10");
        fraction("no line is cut", what -> Nets.told(Nets.TEN).odds(0, what), 1, 1);
        fraction("all are cut", what -> Nets.told(Nets.TEN).odds(10, what), 0, 1);
        for (int x = 0; x <= 10; x++) {
            int tenths = x;
            fraction("without lines, by " + x, what -> Nets.bare(2).odds(tenths, what), 0, 1);
            fraction("of a node alone, by " + x, what -> Nets.told("n3;e0 1 1;").odds(tenths, what), 0, 1);
        }
        fraction("of one line, by 1", what -> Nets.path(2).odds(1, what), 9, 10);
        fraction("of one line, by 9", what -> Nets.path(2).odds(9, what), 1, 10);
        fraction("of five in a row, by 1", what -> Nets.path(6).odds(1, what), 59049, 100000);
        fraction("of five in a row, by 9", what -> Nets.path(6).odds(9, what), 1, 100000);
        fraction("of ten lines, by 1", what -> Nets.told(Nets.TEN).odds(1, what), 1222491447, 1250000000);
        fraction("of ten lines, by 9", what -> Nets.told(Nets.TEN).odds(9, what), 833147, 1250000000);
        fraction("of each with each, by 1", what -> Nets.told(Nets.WIDEST).odds(1, what), 1249365303, 1250000000);
        String beyond = "n6;e0 1 1;e0 2 1;e0 4 1;e0 5 1;e1 2 1;e1 3 1;e1 4 1;e2 4 1;e2 5 1;e4 5 1;";
        fraction("beyond 31 bits", what -> Nets.told(beyond).odds(1, what), 4489436421L, 5000000000L);
    }
}

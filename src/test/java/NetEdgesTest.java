/** Each sentence about the net and what is done to it that names a boundary, on both sides of it. */
public final class NetEdgesTest {
    private static final int BAD = Nets.BAD, STATE = Nets.STATE, FULL = Nets.FULL;
    private static final int MOST_LINES = 10;
    private static final int MOST_UNDONE = 12;

    private final Dues dues = new Dues();

    public static void main(String[] args) {
        NetEdgesTest t = new NetEdgesTest();
        t.newObject();
        t.objectsApart();
        t.lineNumbers();
        t.lineParts();
        t.numberedInOrder();
        t.widthOfNodes();
        t.widthWithoutLine();
        t.degree();
        t.whole();
        t.laysNodes();
        t.laysWidths();
        t.laysOneAndItself();
        t.laysWhereThereIsOne();
        t.laysTen();
        t.laysOrder();
        t.widensLines();
        t.widensWidths();
        t.widensToTheSame();
        t.cutsLines();
        t.cutsAll();
        t.undoNone();
        t.undoTwelve();
        t.undoTwelveOfManyNodes();
        t.undoLatest();
        t.undoRefused();
        t.undoLostStaysLost();
        t.hangsTogether();
        t.countWhat();
        t.countLeastAndMost();
        t.lastCall();
        t.dues.end();
    }

    private void line(ChanceNets x, int l, int u, int v, int w) {
        dues.due("lower node of line " + l, x.line(l, 0), u);
        dues.due("other node of line " + l, x.line(l, 1), v);
        dues.due("width of line " + l, x.line(l, 2), w);
    }

    // ---- promise 1

    private void newObject() {
        dues.about("promise 1, two NODES, no LINES");
        dues.same("a new object", Nets.counts(new ChanceNets()), "counts 2 0 0 0 0 0 0; ");
        Nets.range(dues, "width() of a new object", 0, 1, a -> new ChanceNets().width(a, 0));
        dues.due("line(0, 0)", new ChanceNets().line(0, 0), BAD);
        dues.due("cuts(0)", new ChanceNets().cuts(0), BAD);
        dues.due("undo()", new ChanceNets().undo(), STATE);
        dues.due("back(0)", new ChanceNets().back(0), STATE);
        dues.due("back(1)", new ChanceNets().back(1), STATE);
        dues.due("forget()", new ChanceNets().forget(), 0);
        dues.due("clear()", new ChanceNets().clear(), 0);
        dues.due("net()", new ChanceNets().net(), 0);
        dues.due("unseen()", new ChanceNets().unseen(), 0);
        dues.due("lays(0, 1, 1)", new ChanceNets().lays(0, 1, 1), 1);
        dues.due("lays(0, 2, 1)", new ChanceNets().lays(0, 2, 1), BAD);
    }

    private void objectsApart() {
        dues.about("promise 1, a new object is as told whatever others are");
        ChanceNets other = new ChanceNets();
        ChanceNets x = Nets.told(Nets.TEN);
        x.keep(0);
        x.keep(1);
        x.cuts(0);
        x.sees(0);
        Nets.types(x, "n3;");
        dues.same("one made ahead", Nets.everything(other), Nets.everything(new ChanceNets()));
        dues.same("one made behind", Nets.counts(new ChanceNets()), "counts 2 0 0 0 0 0 0; ");
    }

    // ---- promise 5

    private void lineNumbers() {
        dues.about("promise 5, Of a LINE; BAD");
        Nets.refused(dues, "line(l, 0) without lines", 0, -1, l -> Nets.bare(6).line(l, 0));
        Nets.range(dues, "line(l, 0) of one line", 0, 0, l -> Nets.path(2).line(l, 0));
        Nets.range(dues, "line(l, 1) of five lines", 0, 4, l -> Nets.path(6).line(l, 1));
        Nets.range(dues, "line(l, 2) of ten lines", 0, 9, l -> Nets.told(Nets.TEN).line(l, 2));
    }

    private void lineParts() {
        dues.about("promise 5, 0 its lower NODE, 1 the other one, 2 WIDTH");
        Nets.range(dues, "line(0, what)", 0, 2, what -> Nets.path(2).line(0, what));
        line(Nets.told("e1 0 9;"), 0, 0, 1, 9);
        line(Nets.told("n6;e5 4 1;"), 0, 4, 5, 1);
    }

    private void numberedInOrder() {
        dues.about("Terms, numbered by their lower NODES, then the other ones");
        // Told from the last pair to the first, each with its higher node ahead.
        ChanceNets x = Nets.told("n5;e4 3 9;e4 2 8;e3 2 7;e4 1 6;e3 1 5;e2 1 4;e4 0 3;e3 0 2;e2 0 1;e1 0 9;");
        int l = 0;
        for (int u = 0; u < 5; u++) {
            for (int v = u + 1; v < 5; v++, l++) {
                line(x, l, u, v, x.width(u, v));
            }
        }
        line(x, 0, 0, 1, 9);
        line(x, 9, 3, 4, 9);
        x.cuts(0);
        line(x, 0, 0, 2, 1);
        line(x, 8, 3, 4, 9);
        dues.due("line(9, 0) behind a cut", x.line(9, 0), BAD);
        x.lays(1, 0, 2);
        line(x, 0, 0, 1, 2);
        line(x, 9, 3, 4, 9);
        x.cuts(9);
        line(x, 8, 2, 4, 8);
        x.undo();
        line(x, 9, 3, 4, 9);
    }

    // ---- promise 6

    private void widthOfNodes() {
        dues.about("promise 6, WIDTH of two NODES; BAD");
        for (int n = 2; n <= 6; n++) {
            int nodes = n;
            Nets.range(dues, "width(u, 0) of " + n + " nodes", 0, n - 1, u -> Nets.bare(nodes).width(u, 0));
            Nets.range(dues, "width(0, v) of " + n + " nodes", 0, n - 1, v -> Nets.bare(nodes).width(0, v));
            Nets.range(dues, "width(u, u) of " + n + " nodes", 0, n - 1, u -> Nets.bare(nodes).width(u, u));
        }
    }

    private void widthWithoutLine() {
        dues.about("Terms, WIDTH of two NODES without a LINE is 0");
        ChanceNets x = Nets.path(6);
        dues.due("width(0, 1)", x.width(0, 1), 1);
        dues.due("width(1, 0)", x.width(1, 0), 1);
        dues.due("width(0, 2)", x.width(0, 2), 0);
        dues.due("width(5, 0)", x.width(5, 0), 0);
        x.cuts(0);
        dues.due("width(0, 1) behind a cut", x.width(0, 1), 0);
        dues.due("width(1, 0) behind a cut", x.width(1, 0), 0);
    }

    private void degree() {
        dues.about("promise 6, one and itself: its DEGREE");
        dues.due("width(0, 0) without lines", Nets.bare(6).width(0, 0), 0);
        ChanceNets star = Nets.told("n6;e5 0 9;e5 1 9;e5 2 9;e5 3 9;e5 4 9;");
        dues.due("width(5, 5) of the most lines, all 9", star.width(5, 5), 45);
        dues.due("width(0, 0) of one line", star.width(0, 0), 9);
        dues.due("width(0, 0) of one line of 1", Nets.path(6).width(0, 0), 1);
        dues.due("width(1, 1) of two lines of 1", Nets.path(6).width(1, 1), 2);
    }

    private void whole() {
        dues.about("Terms, WHOLE: WIDTHS of all LINES");
        dues.due("count(2) without lines", Nets.bare(6).count(2), 0);
        dues.due("count(2) of one line", Nets.path(2).count(2), 1);
        dues.due("count(2) of ten lines of 9", Nets.told(Nets.WIDEST).count(2), 90);
        dues.due("count(2) of unlike lines", Nets.told(Nets.TEN).count(2), 46);
    }

    // ---- promise 7

    private void laysNodes() {
        dues.about("promise 7, LAID between NODES; BAD");
        for (int n = 2; n <= 6; n++) {
            int nodes = n;
            Nets.range(dues, "lays(u, other, 1) of " + n + " nodes", 0, n - 1,
                u -> Nets.bare(nodes).lays(u, u == 0 ? 1 : 0, 1));
            Nets.range(dues, "lays(other, v, 1) of " + n + " nodes", 0, n - 1,
                v -> Nets.bare(nodes).lays(v == 0 ? 1 : 0, v, 1));
        }
    }

    private void laysWidths() {
        dues.about("promise 7, a WIDTH (1 .. 9); BAD");
        Nets.range(dues, "lays(0, 1, w)", 1, 9, w -> new ChanceNets().lays(0, 1, w));
        for (int w = 1; w <= 9; w++) {
            ChanceNets x = new ChanceNets();
            x.lays(1, 0, w);
            dues.due("width laid", x.width(0, 1), w);
        }
    }

    private void laysOneAndItself() {
        dues.about("promise 7, BAD (one and itself, too)");
        for (int u = 0; u < 6; u++) {
            dues.due("lays(" + u + ", " + u + ", 1)", Nets.bare(6).lays(u, u, 1), BAD);
            dues.due("lays(" + u + ", " + u + ", 1) of lines", Nets.path(6).lays(u, u, 1), BAD);
            dues.due("lays(" + u + ", " + u + ", 1) of all full", Nets.told(Nets.TEN).lays(u, u, 1), BAD);
        }
        dues.due("lays(0, 5, 1)", Nets.bare(6).lays(0, 5, 1), 1);
    }

    private void laysWhereThereIsOne() {
        dues.about("promise 7, STATE: there is one");
        ChanceNets x = Nets.bare(3);
        dues.due("lays(0, 1, 5)", x.lays(0, 1, 5), 1);
        dues.due("lays(0, 1, 5) again", x.lays(0, 1, 5), STATE);
        dues.due("lays(0, 1, 6) again", x.lays(0, 1, 6), STATE);
        dues.due("lays(1, 0, 5) again", x.lays(1, 0, 5), STATE);
        dues.due("width", x.width(0, 1), 5);
        dues.due("lays(0, 2, 5)", x.lays(0, 2, 5), 2);
        dues.due("lays(1, 2, 5)", x.lays(1, 2, 5), 3);
        dues.due("cuts(0)", x.cuts(0), 2);
        dues.due("lays(1, 0, 5) where there is none any more", x.lays(1, 0, 5), 3);
    }

    private void laysTen() {
        dues.about("promise 7, LINES; FULL: 10");
        ChanceNets x = Nets.bare(6);
        int lines = 0;
        for (int u = 0; u < 6; u++) {
            for (int v = u + 1; v < 6; v++) {
                lines++;
                dues.due("lays() of line " + lines, x.lays(v, u, 9), lines <= MOST_LINES ? lines : FULL);
            }
        }
        dues.due("lines", x.count(1), MOST_LINES);
        dues.due("width of one that was refused", x.width(4, 5), 0);
        x.cuts(0);
        dues.due("lays() behind a cut", x.lays(4, 5, 1), MOST_LINES);
        dues.due("lays() of one more", x.lays(0, 1, 1), FULL);
        x = Nets.told(Nets.TEN);
        dues.due("lays() behind ten told", x.lays(4, 5, 1), FULL);
    }

    private void laysOrder() {
        dues.about("Terms, Refused, the first of these: BAD, STATE, FULL");
        ChanceNets x = Nets.told("n3;e0 1 5;");
        dues.due("lays(0, 1, 0), BAD and STATE", x.lays(0, 1, 0), BAD);
        dues.due("lays(1, 0, 10), BAD and STATE", x.lays(1, 0, 10), BAD);
        x = Nets.told(Nets.TEN);
        dues.due("lays(4, 5, 10), BAD and FULL", x.lays(4, 5, 10), BAD);
        dues.due("lays(4, 6, 1), BAD and FULL", x.lays(4, 6, 1), BAD);
        dues.due("lays(-1, 5, 1), BAD and FULL", x.lays(-1, 5, 1), BAD);
        dues.due("lays(0, 1, 1), STATE and FULL", x.lays(0, 1, 1), STATE);
        dues.due("lays(3, 2, 9), STATE and FULL", x.lays(3, 2, 9), STATE);
        dues.due("lays(0, 1, 0), all three", x.lays(0, 1, 0), BAD);
        dues.due("lays(4, 5, 1), FULL alone", x.lays(4, 5, 1), FULL);
    }

    // ---- promises 8 and 9

    private void widensLines() {
        dues.about("promise 8, a LINE; BAD");
        Nets.refused(dues, "widens(l, 5) without lines", 0, -1, l -> Nets.bare(6).widens(l, 5));
        Nets.range(dues, "widens(l, 5) of five lines", 0, 4, l -> Nets.path(6).widens(l, 5));
        Nets.range(dues, "widens(l, w) of ten lines", 0, 9, l -> Nets.told(Nets.WIDEST).widens(l, 8));
    }

    private void widensWidths() {
        dues.about("promise 8, another WIDTH (1 .. 9): what it was; BAD");
        Nets.refused(dues, "widens(0, w)", 1, 9, w -> Nets.path(2).widens(0, w));
        ChanceNets x = Nets.path(2);
        dues.due("widens(0, 9)", x.widens(0, 9), 1);
        dues.due("widens(0, 10)", x.widens(0, 10), BAD);
        dues.due("widens(0, 1)", x.widens(0, 1), 9);
        dues.due("widens(0, 0)", x.widens(0, 0), BAD);
        dues.due("width", x.width(1, 0), 1);
        dues.due("lines", x.count(1), 1);
    }

    private void widensToTheSame() {
        dues.about("promise 8, STATE: it is that");
        for (int w = 1; w <= 9; w++) {
            for (int next = 1; next <= 9; next++) {
                ChanceNets x = Nets.told("e0 1 " + w + ";");
                dues.due("widens(0, " + next + ") of " + w, x.widens(0, next), next == w ? STATE : w);
                dues.due("what may be undone", x.count(6), next == w ? 0 : 1);
            }
        }
    }

    private void cutsLines() {
        dues.about("promise 9, a LINE; BAD");
        Nets.refused(dues, "cuts(l) without lines", 0, -1, l -> Nets.bare(6).cuts(l));
        Nets.range(dues, "cuts(l) of one line", 0, 0, l -> Nets.path(2).cuts(l));
        Nets.range(dues, "cuts(l) of five lines", 0, 4, l -> Nets.path(6).cuts(l));
        Nets.range(dues, "cuts(l) of ten lines", 0, 9, l -> Nets.told(Nets.TEN).cuts(l));
    }

    private void cutsAll() {
        dues.about("promise 9, LINES that are left");
        ChanceNets x = Nets.told(Nets.TEN);
        for (int left = MOST_LINES - 1; left >= 0; left--) {
            dues.due("cuts() of the last", x.cuts(left), left);
            dues.due("cuts() of one behind the last", x.cuts(left), BAD);
            dues.due("lines", x.count(1), left);
        }
        dues.due("cuts(0) of none", x.cuts(0), BAD);
        dues.due("whole", x.count(2), 0);
        dues.due("nodes", x.count(0), 6);
    }

    // ---- promise 10

    private void undoNone() {
        dues.about("promise 10, STATE: none");
        ChanceNets x = new ChanceNets();
        dues.due("undo() of a new object", x.undo(), STATE);
        x.lays(0, 1, 1);
        dues.due("undo() of one", x.undo(), 0);
        dues.due("undo() of no more", x.undo(), STATE);
        dues.due("lines", x.count(1), 0);
        dues.due("undo() of a net that was told", Nets.told(Nets.TEN).undo(), STATE);
    }

    private static ChanceNets widened(int times) {
        ChanceNets x = Nets.told("n3;e0 1 1;e1 2 9;");
        // Widths of the line 0 1 go 2, 3, .. 9, 1, 2, ..
        for (int i = 1; i <= times; i++) {
            x.widens(0, i % 9 + 1);
        }
        return x;
    }

    private void undoTwelve() {
        dues.about("Terms, 12 are known, older ones are lost");
        for (int times = 0; times <= 26; times++) {
            ChanceNets x = widened(times);
            int known = Math.min(times, MOST_UNDONE);
            dues.due("what may be undone of " + times, x.count(6), known);
            for (int more = known - 1; more >= 0; more--) {
                dues.due("undo() of " + times, x.undo(), more);
                dues.due("count(6) then", x.count(6), more);
            }
            dues.due("undo() of no more, of " + times, x.undo(), STATE);
            dues.due("the width that is left of " + times, x.width(0, 1), (times - known) % 9 + 1);
            dues.due("the other width of " + times, x.width(1, 2), 9);
        }
    }

    private void undoTwelveOfManyNodes() {
        dues.about("Terms, 12 are known, older ones are lost, of whatever nodes they were");
        for (int cut = 0; cut <= 10; cut++) {
            ChanceNets x = Nets.bare(6);
            for (int v = 1; v < 6; v++) {
                x.lays(0, v, v);
                x.lays(v, v == 5 ? 1 : v + 1, v + 3);
            }
            String laid = Nets.lines(x);
            for (int i = 0; i < cut; i++) {
                x.cuts((i * 7) % (10 - i));
            }
            for (int i = 0; i < cut; i++) {
                x.undo();
            }
            dues.same("ten laid, " + cut + " cut and undone", Nets.lines(x), laid);
            // Those laid first are lost, and so stay: one for each cut behind the second.
            dues.due("undone more", undoAll(x), MOST_UNDONE - Math.max(cut, 2));
            dues.due("lines that are left", x.count(1), Math.max(0, cut - 2));
            dues.due("the first laid", x.width(0, 1), cut > 2 ? 1 : 0);
            dues.due("the second laid", x.width(1, 2), cut > 3 ? 4 : 0);
            dues.due("the third laid", x.width(0, 2), cut > 4 ? 2 : 0);
            dues.due("the last laid", x.width(1, 5), 0);
        }
    }

    private void undoLatest() {
        dues.about("Terms, UNDONE: the latest lays(), widens(), cuts()");
        ChanceNets x = Nets.told("n3;e0 1 4;");
        x.lays(2, 1, 5);
        x.widens(1, 6);
        x.cuts(0);
        dues.same("as done", Nets.counts(x), "counts 3 1 6 0 0 0 3; ");
        dues.due("undo() of cuts()", x.undo(), 2);
        line(x, 0, 0, 1, 4);
        line(x, 1, 1, 2, 6);
        dues.due("undo() of widens()", x.undo(), 1);
        line(x, 1, 1, 2, 5);
        dues.due("lays() instead", x.lays(0, 2, 9), 3);
        dues.due("what may be undone", x.count(6), 2);
        dues.due("undo() of that", x.undo(), 1);
        dues.due("undo() of lays()", x.undo(), 0);
        dues.same("as told", Nets.counts(x), "counts 3 1 4 0 0 0 0; ");
        // In a net of as many lines as there may be.
        x = Nets.told(Nets.TEN);
        x.cuts(9);
        x.lays(4, 5, 7);
        dues.due("undo() of the tenth line", x.undo(), 1);
        dues.due("undo() of the cut of the tenth line", x.undo(), 0);
        line(x, 9, 2, 3, 1);
    }

    private void undoRefused() {
        dues.about("Terms, UNDONE: that was not refused");
        ChanceNets x = Nets.told("n3;e0 1 4;");
        x.widens(0, 5);
        x.lays(0, 0, 1);
        x.lays(0, 1, 1);
        x.lays(0, 2, 10);
        x.widens(0, 5);
        x.widens(0, 10);
        x.widens(1, 1);
        x.cuts(1);
        x.cuts(-1);
        dues.due("what may be undone", x.count(6), 1);
        dues.due("undo()", x.undo(), 0);
        dues.due("width", x.width(0, 1), 4);
        x = Nets.told(Nets.TEN);
        x.widens(9, 2);
        x.lays(4, 5, 1);
        dues.due("what may be undone behind FULL", x.count(6), 1);
        x = widened(12);
        x.widens(0, x.line(0, 2));
        dues.due("undo() of the oldest of 12 behind a refused one", undoAll(x), 12);
        dues.due("the width that is left", x.width(0, 1), 1);
    }

    private static int undoAll(ChanceNets x) {
        int many = 0;
        while (many < 100 && x.undo() >= 0) {
            many++;
        }
        return many;
    }

    private void undoLostStaysLost() {
        dues.about("Terms, older ones are lost");
        ChanceNets x = widened(13);
        x.undo();
        x.undo();
        dues.due("what may be undone", x.count(6), 10);
        x.lays(0, 2, 3);
        dues.due("what may be undone then", x.count(6), 11);
        dues.due("undone in all", undoAll(x), 11);
        dues.due("the width that is left", x.width(0, 1), 2);
        dues.due("the line laid is gone", x.width(0, 2), 0);
        for (int i = 0; i < 30; i++) {
            x.cuts(0);
            x.lays(0, 1, i % 9 + 1);
        }
        dues.due("undone in all of 60", undoAll(x), 12);
        dues.due("the width that is left of 60", x.width(0, 1), 23 % 9 + 1);
    }

    // ---- promise 26

    private void hangsTogether() {
        dues.about("Terms, the net HANGS TOGETHER, if all are");
        for (int n = 2; n <= 6; n++) {
            dues.due(n + " nodes without lines", Nets.bare(n).count(3), 0);
            dues.due(n + " nodes in a row", Nets.path(n).count(3), 1);
            for (int l = 0; l < n - 1; l++) {
                ChanceNets x = Nets.path(n);
                x.cuts(l);
                dues.due(n + " nodes in a row, line " + l + " cut", x.count(3), 0);
                x.undo();
                dues.due(n + " nodes in a row again", x.count(3), 1);
            }
        }
        String ten = Nets.WIDEST.replace("n5", "n6");
        dues.due("ten lines and a node alone", Nets.told(ten).count(3), 0);
        dues.due("two rings of three", Nets.told("n6;e0 1 1;e1 2 1;e0 2 1;e3 4 1;e4 5 1;e3 5 1;").count(3), 0);
        dues.due("rings joined", Nets.told("n6;e0 1 1;e1 2 1;e0 2 1;e3 4 1;e4 5 1;e3 5 1;e2 5 1;").count(3), 1);
        // Lines in an order in which each round meets one node more.
        dues.due("a row told backwards", Nets.told("n6;e0 5 1;e4 5 1;e3 4 1;e2 3 1;e1 2 1;").count(3), 1);
    }

    private void countWhat() {
        dues.about("promise 26, count; BAD");
        Nets.range(dues, "count(what)", 0, 6, what -> new ChanceNets().count(what));
        Nets.range(dues, "count(what) of ten lines", 0, 6, what -> Nets.told(Nets.TEN).count(what));
    }

    private void countLeastAndMost() {
        dues.about("promise 26, 0 NODES .. 6 how many may be UNDONE");
        dues.same("least", Nets.counts(new ChanceNets()), "counts 2 0 0 0 0 0 0; ");
        ChanceNets x = Nets.told("n6;e0 1 9;e0 2 9;e0 3 9;e0 4 9;e0 5 9;e1 2 9;e1 3 9;e1 4 9;e1 5 9;e2 3 1;");
        for (int w = 2; w <= 9; w++) {
            x.widens(9, w);
        }
        for (int i = 0; i < 3; i++) {
            x.cuts(9);
            x.lays(2, 3, 9);
        }
        for (int i = 0; i < 7; i++) {
            x.sees(i);
        }
        Nets.types(x, " ".repeat(81));
        dues.same("most", Nets.counts(x), "counts 6 10 90 1 6 80 12; ");
    }

    private void lastCall() {
        dues.about("What it is, at most 512 calls");
        ChanceNets x = new ChanceNets();
        for (int i = 0; i < 255; i++) {
            dues.due("lays()", x.lays(0, 1, i % 9 + 1), 1);
            dues.due("cuts()", x.cuts(0), 0);
        }
        dues.due("call 511", x.undo(), 11);
        dues.due("call 512", x.line(0, 2), 254 % 9 + 1);
    }
}

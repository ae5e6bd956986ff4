/** Each promise of the document by itself: ordinary inputs, edges, wrong inputs; worked out by hand. */
public final class PromisesTest {
    private static final int BAD = Nets.BAD, STATE = Nets.STATE, FULL = Nets.FULL, NONE = Nets.NONE;
    private static final String TRIANGLE = Nets.TRIANGLE;

    private final Dues dues = new Dues();
    private int promise;

    public static void main(String[] args) {
        PromisesTest t = new PromisesTest();
        t.newObject();
        t.type();
        t.clear();
        t.net();
        t.faults();
        t.line();
        t.width();
        t.lays();
        t.widens();
        t.cuts();
        t.undo();
        t.hitting();
        t.between();
        t.ahead();
        t.walks();
        t.trees();
        t.share();
        t.rank();
        t.reduced();
        t.worst();
        t.odds();
        t.sees();
        t.forget();
        t.unseen();
        t.keep();
        t.back();
        t.count();
        t.dues.end();
    }

    private void due(String call, long got, long want) {
        dues.due("promise " + promise + ": " + call, got, want);
    }

    private void fraction(String call, long upper, long lower, long wantUpper, long wantLower) {
        due(call + " upper", upper, wantUpper);
        due(call + " lower", lower, wantLower);
    }

    private void counts(String when, ChanceNets x, int... want) {
        for (int what = 0; what < want.length; what++) {
            due("count(" + what + ") " + when, x.count(what), want[what]);
        }
    }

    private void newObject() {
        promise = 1;
        ChanceNets x = new ChanceNets();
        counts("of a new object", x, 2, 0, 0, 0, 0, 0, 0);
        due("undo()", x.undo(), STATE);
        due("back(0)", x.back(0), STATE);
        due("back(1)", x.back(1), STATE);
        due("forget()", x.forget(), 0);
        due("clear()", x.clear(), 0);
        due("width(2, 0)", x.width(2, 0), BAD);
        due("BAD", ChanceNets.BAD, BAD);
        due("STATE", ChanceNets.STATE, STATE);
        due("FULL", ChanceNets.FULL, FULL);
        due("NONE", ChanceNets.NONE, NONE);
        ChanceNets other = new ChanceNets();
        x.lays(0, 1, 5);
        x.type('n');
        x.sees(3);
        x.keep(0);
        counts("of another object", other, 2, 0, 0, 0, 0, 0, 0);
        due("back(0) of another object", other.back(0), STATE);
    }

    private void type() {
        promise = 2;
        ChanceNets x = new ChanceNets();
        due("type(-1)", x.type(-1), BAD);
        due("type(256)", x.type(256), BAD);
        due("type(0)", x.type(0), 1);
        due("type(255)", x.type(255), 2);
        for (int i = 3; i <= 80; i++) {
            due("type(32)", x.type(32), i);
        }
        due("the 81st type(32)", x.type(32), FULL);
        due("type(256) of a full text", x.type(256), BAD);
        due("count(5)", x.count(5), 80);
    }

    private void clear() {
        promise = 3;
        ChanceNets x = Nets.told(TRIANGLE);
        Nets.types(x, "n9");
        due("clear()", x.clear(), 2);
        due("clear() again", x.clear(), 0);
        due("count(5)", x.count(5), 0);
        due("count(1)", x.count(1), 4);
        Nets.types(x, "n3;");
        due("net() behind clear()", x.net(), 1);
    }

    private void net() {
        promise = 4;
        ChanceNets x = new ChanceNets();
        Nets.types(x, TRIANGLE);
        due("net()", x.net(), 5);
        counts("as told", x, 4, 4, 15, 1, 0, 0, 0);
        x.cuts(0);
        x.sees(1);
        x.keep(0);
        x.keep(1);
        Nets.types(x, "n6;x");
        due("net() with a fault", x.net(), -13);
        counts("behind a fault", x, 4, 3, 13, 1, 1, 4, 1);
        due("back(1) behind a fault", x.back(1), 4);
        x.cuts(0);
        x.clear();
        Nets.types(x, "e1 0 7;");
        due("net() without n", x.net(), 1);
        counts("as told anew", x, 2, 1, 7, 1, 0, 0, 0);
        due("undo() as told anew", x.undo(), STATE);
        due("back(0) as told anew", x.back(0), STATE);
        due("back(1) as told anew", x.back(1), STATE);
        due("net() of no text", x.net(), 0);
        counts("of no text", x, 2, 0, 0, 0, 0, 0, 0);
        Nets.types(x, "   ");
        due("net() of blanks", x.net(), 0);
        due("count(5) behind blanks", x.count(5), 0);
        Nets.types(x, "  n 6  ; e  5 4  9;;");
        due("net() with a ; too many", x.net(), -29);
        Nets.types(x, "   ");
        due("the text stays behind a fault", x.count(5), 23);
    }

    private void faults() {
        Object[][] texts = {
            {"n", 1}, {"n ", 2}, {"n2", 2}, {"n2 ", 3}, {";", 0}, {" ;", 1}, {"5", 0}, {"n;", 1},
            {"n0;", 1}, {"n1;", 1}, {"n7;", 1}, {"n9;", 1}, {"n10;", 1}, {"n02;", 1}, {"n 22;", 2},
            {"n2 2;", 3}, {"n2e", 2}, {"n2;n", 3}, {"n2;n3;", 3}, {"e0 1 1;n2;", 7}, {"nn2;", 1},
            {"e", 1}, {"e;", 1}, {"e2 0 1;", 1}, {"e0", 2}, {"e0;", 2}, {"e0 0 1;", 3}, {"e1 1 1;", 3},
            {"e0 2 1;", 3}, {"e0 1", 4}, {"e0 1;", 4}, {"e0 1 0;", 5}, {"e0 1 10;", 5}, {"e0 1 01;", 5},
            {"e01 1;", 1}, {"e0 11;", 3}, {"e0 1 1", 6}, {"e0 1 1 1;", 7}, {"e0 1 1;e", 8},
            {"e0 1 1;e0 1 2;", 10}, {"e0 1 1;e1 0 2;", 10}, {"n3;e0 1 1;e2 1 1;e1 2 1;", 20},
            {"N2;", 0}, {"E0 1 1;", 0}, {"n2,", 2}, {"e0 -1 1;", 3}, {"e0 0 1;y", 3}, {"\t", 0}, {"n2;\n", 3},
            {"n3;e0 3 1;", 6}, {"n6;e5 4 9; e4 5 9;", 14}, {"n\u00002;", 1}, {"\u00ff", 0},
            {"e0 1 1; 0", 8}, {"n 0000000000002;", 2}, {"n 99999999999999999999;", 2}
        };
        for (Object[] row : texts) {
            ChanceNets x = new ChanceNets();
            Nets.types(x, (String) row[0]);
            due("net() of '" + row[0] + "'", x.net(), -10 - (Integer) row[1]);
            due("letters behind it", x.count(5), ((String) row[0]).length());
        }
        ChanceNets x = new ChanceNets();
        Nets.types(x, "n6;e0 1 1;e0 2 1;e0 3 1;e0 4 1;e0 5 1;e1 2 1;e1 3 1;e1 4 1;e1 5 1;e2 3 1;");
        due("net() of ten lines", x.net(), 11);
        due("count(1) of ten lines", x.count(1), 10);
        Nets.types(x, "n6;e0 1 1;e0 2 1;e0 3 1;e0 4 1;e0 5 1;e1 2 1;e1 3 1;e1 4 1;e1 5 1;e2 3 1; e2 4");
        due("net() of an eleventh line", x.net(), -10 - 74);
    }

    private void line() {
        promise = 5;
        ChanceNets x = Nets.told("n4;e3 2 7;e2 0 5;e3 0 6;e1 0 4;");
        int[][] want = {{0, 1, 4}, {0, 2, 5}, {0, 3, 6}, {2, 3, 7}};
        for (int l = 0; l < 4; l++) {
            for (int what = 0; what < 3; what++) {
                due("line(" + l + ", " + what + ")", x.line(l, what), want[l][what]);
            }
        }
        due("line(4, 0)", x.line(4, 0), BAD);
        due("line(-1, 0)", x.line(-1, 0), BAD);
        due("line(0, -1)", x.line(0, -1), BAD);
        due("line(0, 3)", x.line(0, 3), BAD);
        due("line(MAX, MIN)", x.line(Integer.MAX_VALUE, Integer.MIN_VALUE), BAD);
        x.cuts(0);
        due("line(0, 1) behind a cut", x.line(0, 1), 2);
        due("line(3, 0) behind a cut", x.line(3, 0), BAD);
        x.lays(2, 1, 9);
        due("line(2, 0) behind a line laid", x.line(2, 0), 1);
        due("line(2, 1) behind a line laid", x.line(2, 1), 2);
        due("line(2, 2) behind a line laid", x.line(2, 2), 9);
    }

    private void width() {
        promise = 6;
        ChanceNets x = Nets.told(TRIANGLE);
        due("width(0, 1)", x.width(0, 1), 2);
        due("width(1, 0)", x.width(1, 0), 2);
        due("width(0, 3)", x.width(0, 3), 0);
        due("width(0, 0)", x.width(0, 0), 8);
        due("width(2, 2)", x.width(2, 2), 13);
        due("width(3, 3)", x.width(3, 3), 4);
        due("width(4, 0)", x.width(4, 0), BAD);
        due("width(0, 4)", x.width(0, 4), BAD);
        due("width(-1, -1)", x.width(-1, -1), BAD);
        due("width(MAX, 0)", x.width(Integer.MAX_VALUE, 0), BAD);
    }

    private void lays() {
        promise = 7;
        ChanceNets x = Nets.told("n6;");
        due("lays(0, 0, 1)", x.lays(0, 0, 1), BAD);
        due("lays(0, 6, 1)", x.lays(0, 6, 1), BAD);
        due("lays(-1, 0, 1)", x.lays(-1, 0, 1), BAD);
        due("lays(0, 1, 0)", x.lays(0, 1, 0), BAD);
        due("lays(0, 1, 10)", x.lays(0, 1, 10), BAD);
        due("count(6) behind refused ones", x.count(6), 0);
        int lines = 0;
        for (int u = 5; u > 0 && lines < 10; u--) {
            for (int v = u - 1; v >= 0 && lines < 10; v--) {
                lines++;
                due("lays(" + u + ", " + v + ", 9)", x.lays(u, v, 9), lines);
            }
        }
        due("width(4, 5)", x.width(4, 5), 9);
        due("lays of one that there is, all full", x.lays(4, 5, 9), STATE);
        due("lays(0, 1, 1) of all full", x.lays(0, 1, 1), FULL);
        due("lays(0, 1, 0) of all full", x.lays(0, 1, 0), BAD);
        due("count(2)", x.count(2), 90);
        due("count(6)", x.count(6), 10);
    }

    private void widens() {
        promise = 8;
        ChanceNets x = Nets.told(TRIANGLE);
        due("widens(1, 9)", x.widens(1, 9), 6);
        due("widens(1, 9) again", x.widens(1, 9), STATE);
        due("widens(1, 1)", x.widens(1, 1), 9);
        due("width(2, 0)", x.width(2, 0), 1);
        due("widens(4, 1)", x.widens(4, 1), BAD);
        due("widens(-1, 1)", x.widens(-1, 1), BAD);
        due("widens(0, 0)", x.widens(0, 0), BAD);
        due("widens(0, 10)", x.widens(0, 10), BAD);
        due("count(6)", x.count(6), 2);
        due("count(1)", x.count(1), 4);
    }

    private void cuts() {
        promise = 9;
        ChanceNets x = Nets.told(TRIANGLE);
        due("cuts(4)", x.cuts(4), BAD);
        due("cuts(-1)", x.cuts(-1), BAD);
        due("cuts(0)", x.cuts(0), 3);
        due("width(0, 1)", x.width(0, 1), 0);
        due("cuts(2)", x.cuts(2), 2);
        due("width(2, 3)", x.width(2, 3), 0);
        due("count(3)", x.count(3), 0);
        due("cuts(0)", x.cuts(0), 1);
        due("cuts(0)", x.cuts(0), 0);
        due("cuts(0) of none", x.cuts(0), BAD);
        due("count(6)", x.count(6), 4);
    }

    private void undo() {
        promise = 10;
        ChanceNets x = Nets.told(TRIANGLE);
        due("undo() of nothing", x.undo(), STATE);
        x.cuts(0);
        x.lays(0, 3, 5);
        x.widens(0, 1);
        x.widens(0, 1);
        x.lays(0, 0, 1);
        due("count(6)", x.count(6), 3);
        due("undo()", x.undo(), 2);
        due("width(0, 2)", x.width(0, 2), 6);
        due("undo()", x.undo(), 1);
        due("width(0, 3)", x.width(0, 3), 0);
        due("undo()", x.undo(), 0);
        due("width(0, 1)", x.width(0, 1), 2);
        due("line(0, 1)", x.line(0, 1), 1);
        due("undo() of no more", x.undo(), STATE);
        for (int i = 0; i < 14; i++) {
            x.widens(3, i % 9 + 1 == x.line(3, 2) ? 9 : i % 9 + 1);
        }
        due("count(6) of 14", x.count(6), 12);
        for (int left = 11; left >= 0; left--) {
            due("undo()", x.undo(), left);
        }
        due("undo() of one that is lost", x.undo(), STATE);
        due("width(2, 3), two of which are lost", x.width(2, 3), 2);
        losesOldest();
    }

    private void losesOldest() {
        ChanceNets x = Nets.told("n6;");
        for (int v = 1; v < 6; v++) {
            x.lays(0, v, v);
        }
        for (int v = 2; v < 5; v++) {
            x.lays(1, v, v);
        }
        for (int i = 0; i < 6; i++) {
            x.cuts(0);
        }
        due("count(6) of 8 laid and 6 cut", x.count(6), 12);
        for (int left = 11; left >= 0; left--) {
            due("undo() of lines laid and cut", x.undo(), left);
        }
        due("lines that are left", x.count(1), 2);
        due("the first that is left", x.width(0, 1), 1);
        due("the second that is left", x.width(0, 2), 2);
    }

    private void hitting() {
        promise = 11;
        ChanceNets x = Nets.told("n3;e0 1 1;e1 2 3;");
        fraction("hitting(0, 2)", x.hitting(0, 2, 0), x.hitting(0, 2, 1), 8, 3);
        fraction("hitting(2, 0)", x.hitting(2, 0, 0), x.hitting(2, 0, 1), 8, 1);
        fraction("hitting(1, 2)", x.hitting(1, 2, 0), x.hitting(1, 2, 1), 5, 3);
        fraction("hitting(1, 1)", x.hitting(1, 1, 0), x.hitting(1, 1, 1), 0, 1);
        due("hitting(3, 0, 0)", x.hitting(3, 0, 0), BAD);
        due("hitting(0, -1, 0)", x.hitting(0, -1, 0), BAD);
        due("hitting(0, 1, 2)", x.hitting(0, 1, 2), BAD);
        due("hitting(0, 1, -1)", x.hitting(0, 1, -1), BAD);
        x.cuts(0);
        due("hitting(1, 2, 0) where it does not hang", x.hitting(1, 2, 0), STATE);
        due("hitting(1, 1, 0) where it does not hang", x.hitting(1, 1, 0), STATE);
        due("hitting(1, 1, 2) where it does not hang", x.hitting(1, 1, 2), BAD);
    }

    private void between() {
        promise = 12;
        ChanceNets x = Nets.told("n3;e0 1 1;e1 2 3;");
        fraction("COMMUTE 0 2", x.between(0, 2, 0, 0), x.between(0, 2, 0, 1), 32, 3);
        fraction("COMMUTE 2 0", x.between(2, 0, 0, 0), x.between(2, 0, 0, 1), 32, 3);
        fraction("RESISTANCE 0 2", x.between(0, 2, 1, 0), x.between(0, 2, 1, 1), 4, 3);
        fraction("RESISTANCE 1 2", x.between(1, 2, 1, 0), x.between(1, 2, 1, 1), 1, 3);
        fraction("COMMUTE 1 1", x.between(1, 1, 0, 0), x.between(1, 1, 0, 1), 0, 1);
        fraction("RESISTANCE 1 1", x.between(1, 1, 1, 0), x.between(1, 1, 1, 1), 0, 1);
        due("between(3, 0, 0, 0)", x.between(3, 0, 0, 0), BAD);
        due("between(0, 3, 0, 0)", x.between(0, 3, 0, 0), BAD);
        due("between(0, 1, 2, 0)", x.between(0, 1, 2, 0), BAD);
        due("between(0, 1, -1, 0)", x.between(0, 1, -1, 0), BAD);
        due("between(0, 1, 0, 2)", x.between(0, 1, 0, 2), BAD);
        x.cuts(1);
        due("between(0, 1, 1, 0) where it does not hang", x.between(0, 1, 1, 0), STATE);
        due("between(0, 1, 1, 2) where it does not hang", x.between(0, 1, 1, 2), BAD);
    }

    private void ahead() {
        promise = 13;
        ChanceNets x = Nets.told("n4;e0 1 1;e1 2 3;e1 3 5;");
        fraction("ahead(1, 0, 2)", x.ahead(1, 0, 2, 0), x.ahead(1, 0, 2, 1), 1, 4);
        fraction("ahead(3, 2, 0)", x.ahead(3, 2, 0, 0), x.ahead(3, 2, 0, 1), 3, 4);
        fraction("ahead(0, 0, 2)", x.ahead(0, 0, 2, 0), x.ahead(0, 0, 2, 1), 1, 1);
        fraction("ahead(2, 0, 2)", x.ahead(2, 0, 2, 0), x.ahead(2, 0, 2, 1), 0, 1);
        fraction("ahead(0, 1, 3)", x.ahead(0, 1, 3, 0), x.ahead(0, 1, 3, 1), 1, 1);
        due("ahead(0, 1, 1, 0)", x.ahead(0, 1, 1, 0), BAD);
        due("ahead(4, 0, 1, 0)", x.ahead(4, 0, 1, 0), BAD);
        due("ahead(0, 4, 1, 0)", x.ahead(0, 4, 1, 0), BAD);
        due("ahead(0, 1, -1, 0)", x.ahead(0, 1, -1, 0), BAD);
        due("ahead(0, 1, 2, 2)", x.ahead(0, 1, 2, 2), BAD);
        x.cuts(2);
        due("ahead(1, 0, 2, 0) where it does not hang", x.ahead(1, 0, 2, 0), STATE);
        due("ahead(1, 2, 2, 0) where it does not hang", x.ahead(1, 2, 2, 0), BAD);
    }

    private void walks() {
        promise = 14;
        ChanceNets x = Nets.told("n3;e0 1 2;e1 2 3;");
        long[][] want = {{1, 1, 0}, {2, 0, 0}, {10, 4, 6}, {26, 0, 18}, {130, 52, 114}, {338, 0, 306}};
        for (int t = 0; t < want.length; t++) {
            for (int kind = 0; kind < 3; kind++) {
                due("walks(0, " + t + ", " + kind + ")", x.walks(0, t, kind), want[t][kind]);
            }
        }
        due("walks(1, 3, 2)", x.walks(1, 3, 2), 30);
        due("walks(1, 6, 1)", x.walks(1, 6, 1), 2197);
        due("walks(3, 0, 0)", x.walks(3, 0, 0), BAD);
        due("walks(-1, 0, 0)", x.walks(-1, 0, 0), BAD);
        due("walks(0, -1, 0)", x.walks(0, -1, 0), BAD);
        due("walks(0, 7, 0)", x.walks(0, 7, 0), BAD);
        due("walks(0, 0, 3)", x.walks(0, 0, 3), BAD);
        due("walks(0, 0, -1)", x.walks(0, 0, -1), BAD);
        x.cuts(0);
        due("walks(0, 0, 0) of a node alone", x.walks(0, 0, 0), 1);
        due("walks(0, 1, 0) of a node alone", x.walks(0, 1, 0), 0);
        due("walks(1, 2, 1) where it does not hang", x.walks(1, 2, 1), 9);
        due("walks(1, 6, 2) where it does not hang", x.walks(1, 6, 2), 0);
        ChanceNets star = Nets.told("n6;e0 1 9;e0 2 9;e0 3 9;e0 4 9;e0 5 9;");
        due("walks(0, 6, 0) of a wide star", star.walks(0, 6, 0), 405L * 405 * 405);
    }

    private void trees() {
        promise = 15;
        due("trees() of a new object", new ChanceNets().trees(), 0);
        ChanceNets x = Nets.told(TRIANGLE);
        due("trees()", x.trees(), 4 * (2 * 3 + 2 * 6 + 3 * 6));
        x.cuts(3);
        due("trees() where it does not hang", x.trees(), 0);
        due("trees() of a node alone at first", Nets.told("n4;e1 2 1;e2 3 1;e1 3 1;").trees(), 0);
        due("trees() of a path", Nets.told("n6;e0 1 9;e1 2 9;e2 3 9;e3 4 9;e4 5 9;").trees(), 59049);
        due("trees() of two pairs", Nets.told("n4;e0 1 9;e2 3 9;").trees(), 0);
    }

    private void share() {
        promise = 16;
        ChanceNets x = Nets.told(TRIANGLE);
        fraction("share(0)", x.share(0, 0), x.share(0, 1), 1, 2);
        fraction("share(1)", x.share(1, 0), x.share(1, 1), 5, 6);
        fraction("share(2)", x.share(2, 0), x.share(2, 1), 2, 3);
        fraction("share(3)", x.share(3, 0), x.share(3, 1), 1, 1);
        due("share(4, 0)", x.share(4, 0), BAD);
        due("share(-1, 0)", x.share(-1, 0), BAD);
        due("share(0, 2)", x.share(0, 2), BAD);
        due("share(0, -1)", x.share(0, -1), BAD);
        x.cuts(3);
        due("share(0, 0) where it does not hang", x.share(0, 0), STATE);
        due("share(3, 0) where it does not hang", x.share(3, 0), BAD);
    }

    private void rank() {
        promise = 17;
        ChanceNets x = Nets.told(TRIANGLE);
        int[] want = {3, 1, 2, 0, NONE};
        for (int k = 0; k < want.length; k++) {
            due("rank(" + k + ")", x.rank(k), want[k]);
        }
        due("rank(-1)", x.rank(-1), BAD);
        due("rank(0) of the lowest line", Nets.told("n3;e0 1 9;e1 2 1;e0 2 1;").rank(0), 0);
        due("rank(1) of the lowest like one", Nets.told("n3;e0 1 9;e1 2 1;e0 2 1;").rank(1), 1);
        due("rank(MAX)", x.rank(Integer.MAX_VALUE), NONE);
        x.widens(2, 6);
        due("rank(1) of like ones", x.rank(1), 1);
        due("rank(2) of like ones", x.rank(2), 2);
        x.cuts(3);
        due("rank(0) where it does not hang", x.rank(0), STATE);
        due("rank(9) where it does not hang", x.rank(9), STATE);
        due("rank(-1) where it does not hang", x.rank(-1), BAD);
    }

    private void reduced() {
        promise = 18;
        ChanceNets x = Nets.told(TRIANGLE);
        due("reduced(0, 1, 0)", x.reduced(0, 1, 0), 1);
        fraction("reduced(0, 1)", x.reduced(0, 1, 1), x.reduced(0, 1, 2), 1, 4);
        due("reduced(3, 1, 0)", x.reduced(3, 1, 0), 1);
        fraction("reduced(3, 1)", x.reduced(3, 1, 1), x.reduced(3, 1, 2), 17, 36);
        fraction("reduced(3, 2)", x.reduced(3, 2, 1), x.reduced(3, 2, 2), 1, 4);
        due("reduced(0, 0, 0)", x.reduced(0, 0, 0), BAD);
        due("reduced(0, 4, 0)", x.reduced(0, 4, 0), BAD);
        due("reduced(-1, 0, 0)", x.reduced(-1, 0, 0), BAD);
        due("reduced(0, 1, 3)", x.reduced(0, 1, 3), BAD);
        due("reduced(0, 1, -1)", x.reduced(0, 1, -1), BAD);
        x.cuts(3);
        due("reduced(0, 1, 0) where it does not hang", x.reduced(0, 1, 0), STATE);
        due("reduced(0, 0, 0) where it does not hang", x.reduced(0, 0, 0), BAD);
        ChanceNets path = Nets.told("n6;e0 3 2;e3 1 4;e1 5 8;e5 2 1;e2 4 1;");
        fraction("reduced(0, 4) of a path", path.reduced(0, 4, 1), path.reduced(0, 4, 2), 23, 8);
        due("reduced(5, 1, 0) of a path", path.reduced(5, 1, 0), 1);
        ChanceNets four = Nets.told("n4;e0 1 1;e0 2 1;e0 3 1;e1 2 1;e1 3 1;e2 3 1;");
        due("reduced(0, 1, 0) of all four nodes", four.reduced(0, 1, 0), 6);
        due("reduced(0, 1, 1) of all four nodes", four.reduced(0, 1, 1), NONE);
        due("reduced(0, 1, 2) of all four nodes", four.reduced(0, 1, 2), NONE);
    }

    private void worst() {
        promise = 19;
        ChanceNets x = Nets.told(TRIANGLE);
        due("worst(1, 0)", x.worst(1, 0), 1);
        due("worst(0, 2)", x.worst(0, 2), 1);
        due("worst of the line 0 1", Nets.told("n3;e0 1 9;e1 2 1;e0 2 1;").worst(0, 1), 0);
        due("worst(0, 1)", x.worst(0, 1), 2);
        due("worst of like ones", Nets.told("n4;e0 1 1;e0 2 1;e1 3 1;e2 3 1;").worst(0, 3), 2);
        due("worst of a path", Nets.told("n3;e0 1 1;e1 2 1;").worst(0, 2), NONE);
        due("worst(0, 0)", x.worst(0, 0), BAD);
        due("worst(4, 0)", x.worst(4, 0), BAD);
        due("worst(0, -1)", x.worst(0, -1), BAD);
        due("count(1) behind worst()", x.count(1), 4);
        x.cuts(3);
        due("worst(0, 1) where it does not hang", x.worst(0, 1), STATE);
        due("worst(3, 3) where it does not hang", x.worst(3, 3), BAD);
    }

    private void odds() {
        promise = 20;
        ChanceNets x = Nets.told("n3;e0 1 5;e1 2 7;e0 2 9;");
        fraction("odds(0)", x.odds(0, 0), x.odds(0, 1), 1, 1);
        fraction("odds(10)", x.odds(10, 0), x.odds(10, 1), 0, 1);
        fraction("odds(1)", x.odds(1, 0), x.odds(1, 1), 243, 250);
        fraction("odds(8)", x.odds(8, 0), x.odds(8, 1), 13, 125);
        due("odds(11, 0)", x.odds(11, 0), BAD);
        due("odds(-1, 0)", x.odds(-1, 0), BAD);
        due("odds(1, 2)", x.odds(1, 2), BAD);
        due("odds(1, -1)", x.odds(1, -1), BAD);
        x.cuts(0);
        fraction("odds(3) of a path", x.odds(3, 0), x.odds(3, 1), 49, 100);
        x.cuts(0);
        fraction("odds(0) where it does not hang", x.odds(0, 0), x.odds(0, 1), 0, 1);
    }

    private void sees() {
        promise = 21;
        ChanceNets x = Nets.told(TRIANGLE);
        due("sees(-1)", x.sees(-1), BAD);
        due("sees(MIN)", x.sees(Long.MIN_VALUE), BAD);
        for (int i = 1; i <= 6; i++) {
            due("sees(0)", x.sees(0), i);
        }
        due("sees(0) of all full", x.sees(0), FULL);
        due("sees(-1) of all full", x.sees(-1), BAD);
        due("count(4)", x.count(4), 6);
        due("sees(MAX) of a new object", new ChanceNets().sees(Long.MAX_VALUE), 1);
    }

    private void forget() {
        promise = 22;
        ChanceNets x = Nets.told(TRIANGLE);
        due("forget() of nothing", x.forget(), 0);
        x.sees(0);
        x.sees(1);
        due("unseen()", x.unseen(), 0);
        due("forget()", x.forget(), 2);
        due("forget() again", x.forget(), 0);
        due("unseen() of nothing seen", x.unseen(), 15);
        due("sees(0) then", x.sees(0), 1);
    }

    private void unseen() {
        promise = 23;
        ChanceNets x = Nets.told(TRIANGLE);
        due("unseen() of nothing seen", x.unseen(), 15);
        x.sees(4 * 2 * 3);
        due("unseen() of the line 0 2", x.unseen(), 2);
        x.sees(4 * 2 * 3);
        due("unseen() of the same again", x.unseen(), 2);
        x.sees(0);
        due("unseen() of unlike ones", x.unseen(), 0);
        x.forget();
        x.sees(0);
        due("unseen() of the tail", x.unseen(), 8);
        x.cuts(0);
        due("unseen() of a path", x.unseen(), 7);
        x.cuts(0);
        due("unseen() where it does not hang", x.unseen(), 3);
        x.forget();
        x.undo();
        x.undo();
        x.widens(2, 6);
        x.sees(4 * 2 * 6);
        due("unseen() of like ones", x.unseen(), 6);
    }

    private void keep() {
        promise = 24;
        ChanceNets x = Nets.told(TRIANGLE);
        due("keep(-1)", x.keep(-1), BAD);
        due("keep(2)", x.keep(2), BAD);
        x.cuts(0);
        due("keep(0)", x.keep(0), 4);
        due("count(6) behind keep()", x.count(6), 1);
        x.cuts(0);
        due("keep(1)", x.keep(1), 4);
        due("keep(0) again", x.keep(0), 4);
        x.undo();
        x.back(0);
        due("count(1) of the image kept again", x.count(1), 2);
    }

    private void back() {
        promise = 25;
        ChanceNets x = Nets.told(TRIANGLE);
        due("back(0) of none", x.back(0), STATE);
        due("back(2)", x.back(2), BAD);
        due("back(-1)", x.back(-1), BAD);
        x.keep(0);
        due("back(1) of none", x.back(1), STATE);
        x.cuts(0);
        x.sees(3);
        x.type('n');
        x.keep(1);
        due("back(0)", x.back(0), 4);
        counts("behind back()", x, 4, 4, 15, 1, 1, 1, 0);
        due("width(0, 1)", x.width(0, 1), 2);
        due("undo() behind back()", x.undo(), STATE);
        x.widens(0, 9);
        due("back(0) again", x.back(0), 4);
        due("width(0, 1) again", x.width(0, 1), 2);
        due("back(1)", x.back(1), 4);
        due("count(1) of the other image", x.count(1), 3);
    }

    private void count() {
        promise = 26;
        ChanceNets x = Nets.told("n5;e0 1 2;e2 3 4;");
        x.lays(4, 0, 6);
        x.sees(8);
        x.sees(8);
        Nets.types(x, "ne;");
        counts("of all", x, 5, 3, 12, 0, 2, 3, 1);
        due("count(7)", x.count(7), BAD);
        due("count(-1)", x.count(-1), BAD);
        x.lays(1, 2, 1);
        counts("of a net that hangs together", x, 5, 4, 13, 1, 2, 3, 2);
    }
}

/** Each sentence about what is SEEN, IMAGES and what is read anew that names a boundary, on both sides. */
public final class SeenEdgesTest {
    private static final int BAD = Nets.BAD, STATE = Nets.STATE, FULL = Nets.FULL;
    private static final int MOST_SEEN = 6;

    private final Dues dues = new Dues();

    public static void main(String[] args) {
        SeenEdgesTest t = new SeenEdgesTest();
        t.seesNumbers();
        t.seesSix();
        t.seesOrder();
        t.forget();
        t.unseenOfNothing();
        t.unseenBits();
        t.unseenAllIsSo();
        t.unseenWithoutTrees();
        t.unseenOfTheNetOfNow();
        t.unseenLongNumbers();
        t.imageNumbers();
        t.keepsNodes();
        t.imagesApart();
        t.noneWasKept();
        t.keepsLines();
        t.keepsNothingElse();
        t.nothingUndoneBehindBack();
        t.backAgain();
        t.readAnew();
        t.refusedTextReadsNothingAnew();
        t.dues.end();
    }

    // ---- promises 21 to 23

    private void seesNumbers() {
        dues.about("promise 21, BAD (n below 0)");
        for (long n : new long[] {-1, -2, -1L << 31, -1L << 32, (-1L << 32) + 1, Long.MIN_VALUE}) {
            ChanceNets x = Nets.path(2);
            dues.due("sees(" + n + ")", x.sees(n), BAD);
            dues.due("seen", x.count(4), 0);
        }
        for (long n : new long[] {0, 1, 1L << 31, 1L << 32, 0xFFFFFFFFL, Long.MAX_VALUE}) {
            ChanceNets x = Nets.path(2);
            dues.due("sees(" + n + ")", x.sees(n), 1);
            dues.due("seen", x.count(4), 1);
        }
    }

    private void seesSix() {
        dues.about("promise 21, SEEN: how much there is; FULL: 6");
        for (boolean like : new boolean[] {true, false}) {
            ChanceNets x = Nets.path(2);
            for (int i = 1; i <= MOST_SEEN; i++) {
                dues.due("sees() " + i, x.sees(like ? 0 : i), i);
            }
            dues.due("sees() 7", x.sees(0), FULL);
            dues.due("sees() 8", x.sees(7), FULL);
            dues.due("seen", x.count(4), MOST_SEEN);
            x.forget();
            dues.due("sees() behind forget()", x.sees(0), 1);
        }
        ChanceNets x = Nets.path(2);
        for (int i = 0; i < MOST_SEEN; i++) {
            x.sees(0);
        }
        dues.due("unseen() of six like ones", x.unseen(), 1);
        x.sees(5);
        dues.due("unseen() behind one that was refused", x.unseen(), 1);
    }

    private void seesOrder() {
        dues.about("Terms, Refused, the first of these: BAD, STATE, FULL");
        ChanceNets x = new ChanceNets();
        for (int i = 0; i < MOST_SEEN; i++) {
            x.sees(0);
        }
        dues.due("sees(-1), BAD and FULL", x.sees(-1), BAD);
        dues.due("sees(MIN), BAD and FULL", x.sees(Long.MIN_VALUE), BAD);
        dues.due("sees(0), FULL alone", x.sees(0), FULL);
        dues.due("back(2), BAD and STATE", x.back(2), BAD);
        dues.due("back(-1), BAD and STATE", x.back(-1), BAD);
        dues.due("back(1), STATE alone", x.back(1), STATE);
    }

    private void forget() {
        dues.about("promise 22, Nothing is SEEN: how much was");
        for (int many = 0; many <= MOST_SEEN + 1; many++) {
            ChanceNets x = Nets.path(2);
            for (int i = 0; i < many; i++) {
                x.sees(7);
            }
            dues.due("unseen() of " + many, x.unseen(), many == 0 ? 1 : 0);
            dues.due("forget() of " + many, x.forget(), Math.min(many, MOST_SEEN));
            dues.due("seen", x.count(4), 0);
            dues.due("unseen() then", x.unseen(), 1);
            dues.due("forget() again", x.forget(), 0);
        }
    }

    private void unseenOfNothing() {
        dues.about("promise 23, UNSEEN, where nothing is SEEN");
        for (int n = 2; n <= 6; n++) {
            dues.due("unseen() without lines of " + n, Nets.bare(n).unseen(), 0);
            dues.due("unseen() of a row of " + n, Nets.path(n).unseen(), (1 << (n - 1)) - 1);
        }
        dues.due("unseen() of ten lines", Nets.told(Nets.TEN).unseen(), 1023);
        ChanceNets x = new ChanceNets();
        x.sees(0);
        dues.due("unseen() without lines, 0 seen", x.unseen(), 0);
    }

    private void unseenBits() {
        dues.about("promise 23, UNSEEN (bits)");
        long[] without = {156128, 115576, 100556, 85792, 76932, 49928, 51548, 42896, 42740, 140864};
        for (int l = 0; l < 10; l++) {
            ChanceNets x = Nets.told(Nets.TEN);
            x.sees(without[l]);
            dues.due("unseen() of line " + l, x.unseen(), 1 << l);
            x.forget();
            x.sees(without[l] - 1);
            dues.due("unseen() of one less", x.unseen(), 0);
            x.forget();
            x.sees(without[l] + 1);
            dues.due("unseen() of one more", x.unseen(), 0);
        }
        ChanceNets like = Nets.told(Nets.WIDEST);
        like.sees(492075);
        dues.due("unseen() of ten like ones", like.unseen(), 1023);
        like.sees(820125);
        dues.due("unseen() of all trees, no line being cut", like.unseen(), 0);
    }

    private void unseenAllIsSo() {
        dues.about("Terms, UNSEEN: by which all that was SEEN is so");
        for (int odd = 0; odd <= MOST_SEEN; odd++) {
            ChanceNets x = Nets.told(Nets.TRIANGLE);
            // The tail's 0, but once, at each place in turn, the 24 of the line 0 2.
            for (int i = 0; i < MOST_SEEN; i++) {
                x.sees(i == odd ? 24 : 0);
            }
            dues.due("unseen(), unlike at " + odd, x.unseen(), odd == MOST_SEEN ? 8 : 0);
        }
    }

    private void unseenWithoutTrees() {
        dues.about("promise 23, UNSEEN is told where the net does not hang together, too");
        ChanceNets x = Nets.told("n6;e0 1 1;e2 3 1;e4 5 1;");
        dues.due("unseen() of nothing seen", x.unseen(), 7);
        dues.due("sees(0)", x.sees(0), 1);
        dues.due("unseen() of 0", x.unseen(), 7);
        dues.due("sees(1)", x.sees(1), 2);
        dues.due("unseen() of 0 and 1", x.unseen(), 0);
        dues.due("forget()", x.forget(), 2);
    }

    private void unseenOfTheNetOfNow() {
        dues.about("Terms, SEEN stays till it is forgotten or read anew");
        ChanceNets x = Nets.told(Nets.TRIANGLE);
        x.keep(0);
        x.sees(0);
        dues.due("unseen(), the tail", x.unseen(), 8);
        x.cuts(0);
        dues.due("unseen() behind a cut, a row", x.unseen(), 7);
        dues.due("seen behind a cut", x.count(4), 1);
        x.undo();
        dues.due("unseen() behind undo()", x.unseen(), 8);
        x.lays(1, 3, 1);
        dues.due("unseen() behind lays(), no line of which all hangs", x.unseen(), 0);
        x.back(0);
        dues.due("unseen() behind back()", x.unseen(), 8);
        dues.due("seen behind back()", x.count(4), 1);
        x.widens(0, 9);
        dues.due("seen behind widens()", x.count(4), 1);
    }

    private void unseenLongNumbers() {
        dues.about("promise 21, n beyond 31 bits is not taken for another");
        for (long more : new long[] {1L << 8, 1L << 16, 1L << 31, 1L << 32, 1L << 62}) {
            ChanceNets x = Nets.told(Nets.TRIANGLE);
            x.sees(24);
            dues.due("unseen() of 24", x.unseen(), 2);
            x.forget();
            x.sees(24 + more);
            dues.due("unseen() of 24 and " + more, x.unseen(), 0);
        }
    }

    // ---- promises 24 and 25

    private void imageNumbers() {
        dues.about("Terms, IMAGES 0, 1; BAD");
        Nets.range(dues, "keep(image)", 0, 1, image -> Nets.path(3).keep(image));
        Nets.refused(dues, "back(image) of none", 0, 1, image -> Nets.path(3).back(image));
        Nets.range(dues, "back(image) of both", 0, 1, image -> {
            ChanceNets x = Nets.path(3);
            x.keep(0);
            x.keep(1);
            return x.back(image);
        });
    }

    private void keepsNodes() {
        dues.about("promises 24 and 25, NODES");
        for (int n = 2; n <= 6; n++) {
            for (ChanceNets x : new ChanceNets[] {Nets.bare(n), Nets.path(n)}) {
                dues.due("keep(0)", x.keep(0), n);
                dues.due("keep(1)", x.keep(1), n);
                dues.due("back(0)", x.back(0), n);
                dues.due("back(1)", x.back(1), n);
                dues.due("nodes", x.count(0), n);
            }
        }
    }

    private void imagesApart() {
        dues.about("promise 24, An IMAGE is kept");
        for (int image = 0; image < 2; image++) {
            ChanceNets x = Nets.path(3);
            x.keep(image);
            x.cuts(1);
            x.keep(1 - image);
            x.cuts(0);
            x.back(image);
            dues.due("lines of the first kept", x.count(1), 2);
            x.back(1 - image);
            dues.due("lines of the other one", x.count(1), 1);
            dues.due("its line", x.line(0, 1), 1);
            x.keep(image);
            x.cuts(0);
            x.back(image);
            dues.due("lines of one kept anew", x.count(1), 1);
        }
    }

    private void noneWasKept() {
        dues.about("promise 25, STATE: none was kept");
        for (int image = 0; image < 2; image++) {
            ChanceNets x = Nets.path(3);
            dues.due("back() of none", x.back(image), STATE);
            x.keep(1 - image);
            dues.due("back() of the other one", x.back(image), STATE);
            x.keep(image);
            dues.due("back()", x.back(image), 3);
        }
    }

    private void keepsLines() {
        dues.about("Terms, IMAGES keep LINES");
        for (String text : new String[] {"n6;", "n6;e5 4 9;", Nets.TEN}) {
            ChanceNets x = Nets.told(text);
            x.keep(0);
            for (int i = 0; i < 10; i++) {
                x.cuts(0);
            }
            x.lays(4, 5, 3);
            x.lays(0, 5, 3);
            x.back(0);
            dues.same("back to " + text, Nets.lines(x), Nets.lines(Nets.told(text)));
            x.cuts(0);
            x.lays(4, 3, 2);
            x.back(0);
            dues.same("an image does not change by what is done later", Nets.lines(x), Nets.lines(Nets.told(text)));
        }
        ChanceNets x = Nets.told(Nets.WIDEST);
        x.keep(1);
        x.widens(9, 1);
        x.undo();
        x.widens(0, 1);
        x.back(1);
        dues.due("width of the first line", x.width(0, 1), 9);
        dues.due("whole", x.count(2), 90);
    }

    private void keepsNothingElse() {
        dues.about("Terms, IMAGES keep nothing else");
        ChanceNets x = Nets.path(3);
        x.widens(0, 5);
        x.sees(4);
        Nets.types(x, "n2");
        x.keep(0);
        dues.same("behind keep()", Nets.counts(x), "counts 3 2 6 1 1 2 1; ");
        x.sees(4);
        x.sees(4);
        x.type(';');
        x.back(0);
        dues.same("behind back()", Nets.counts(x), "counts 3 2 6 1 3 3 0; ");
        x.forget();
        x.clear();
        x.back(0);
        dues.same("behind forget(), clear() and back()", Nets.counts(x), "counts 3 2 6 1 0 0 0; ");
    }

    private void nothingUndoneBehindBack() {
        dues.about("Terms, nothing can be UNDONE behind back()");
        for (int many : new int[] {0, 1, 12, 13}) {
            ChanceNets x = Nets.path(2);
            x.keep(0);
            for (int i = 1; i <= many; i++) {
                x.widens(0, i % 9 + 1);
            }
            x.keep(1);
            dues.due("what may be undone behind keep()", x.count(6), Math.min(many, 12));
            x.back(1);
            dues.due("what may be undone behind back(), the lines being as they were", x.count(6), 0);
            dues.due("undo()", x.undo(), STATE);
            x.back(0);
            dues.due("width", x.width(0, 1), 1);
            dues.due("undo() then", x.undo(), STATE);
            x.widens(0, 2);
            dues.due("undo() of what was done behind back()", x.undo(), 0);
            dues.due("undo() of no more", x.undo(), STATE);
            dues.due("width then", x.width(0, 1), 1);
        }
        ChanceNets x = Nets.path(2);
        x.widens(0, 4);
        x.back(0);
        dues.due("undo() behind a refused back()", x.undo(), 0);
    }

    private void backAgain() {
        dues.about("promise 25, an IMAGE stays behind back()");
        ChanceNets x = Nets.path(4);
        x.keep(0);
        for (int i = 0; i < 3; i++) {
            x.cuts(i);
            dues.due("back(0)", x.back(0), 4);
            dues.due("lines", x.count(1), 3);
        }
    }

    // ---- read anew

    private static ChanceNets used() {
        ChanceNets x = Nets.told(Nets.TRIANGLE);
        x.keep(0);
        x.cuts(0);
        x.keep(1);
        x.widens(0, 9);
        x.sees(0);
        return x;
    }

    private void readAnew() {
        dues.about("Terms, Read anew: as told, nothing can be UNDONE, nothing SEEN, IMAGES are gone");
        for (String text : new String[] {"", "  ", "n2;", "n6;", "e0 1 3;", Nets.TRIANGLE, Nets.TEN, Nets.WIDEST}) {
            ChanceNets x = Nets.types(used(), text);
            x.net();
            dues.due("undo() behind '" + text + "'", x.undo(), STATE);
            dues.due("back(0) behind '" + text + "'", x.back(0), STATE);
            dues.due("back(1) behind '" + text + "'", x.back(1), STATE);
            dues.due("forget() behind '" + text + "'", x.forget(), 0);
            x = Nets.types(used(), text);
            x.net();
            dues.same("all behind '" + text + "'", Nets.everything(x), Nets.everything(Nets.told(text)));
        }
    }

    private void refusedTextReadsNothingAnew() {
        dues.about("promise 4, -10 less FAULT: nothing changes");
        for (String text : new String[] {";", "n6;e0 1 3", "n2;n2;"}) {
            ChanceNets x = Nets.types(used(), text);
            x.net();
            dues.due("what may be undone", x.count(6), 2);
            dues.due("seen", x.count(4), 1);
            dues.due("undo()", x.undo(), 1);
            dues.due("back(1)", x.back(1), 4);
            dues.due("lines of image 1", x.count(1), 3);
            dues.due("back(0)", x.back(0), 4);
            dues.due("lines of image 0", x.count(1), 4);
        }
    }
}

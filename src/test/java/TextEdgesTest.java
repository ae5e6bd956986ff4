/** Each sentence about THE TEXT that names a boundary: the last that is taken, the first that is refused. */
public final class TextEdgesTest {
    private static final int BAD = Nets.BAD, FULL = Nets.FULL;
    private static final int MOST_LETTERS = 80;
    private static final int FAULT = -10;

    private final Dues dues = new Dues();

    public static void main(String[] args) {
        TextEdgesTest t = new TextEdgesTest();
        t.letters();
        t.eightyLetters();
        t.fullTextIsRead();
        t.clear();
        t.emptyThen();
        t.noItems();
        t.howManyItems();
        t.nodesTold();
        t.nodesAtFirst();
        t.nodesFirstOfAll();
        t.endsOfLines();
        t.twoUnlikeNodes();
        t.noneToldYet();
        t.widths();
        t.tenLines();
        t.itemsEnded();
        t.aboveNine();
        t.zeroAhead();
        t.figures();
        t.blanks();
        t.noBlanksNeeded();
        t.otherLetters();
        t.otherLettersInAnItem();
        t.endsTooEarly();
        t.firstOfSeveral();
        t.faultChangesNothing();
        t.dues.end();
    }

    /** Each text is told to an object of its own. */
    private void taken(String text, int items) {
        ChanceNets x = Nets.typed(text);
        dues.due("net() of '" + text + "'", x.net(), items);
        dues.due("letters behind '" + text + "'", x.count(5), 0);
    }

    private void fault(String text, int place) {
        ChanceNets x = Nets.typed(text);
        dues.due("net() of '" + text + "'", x.net(), FAULT - place);
        dues.due("letters behind '" + text + "'", x.count(5), text.length());
        dues.due("lines behind '" + text + "'", x.count(1), 0);
        dues.due("nodes behind '" + text + "'", x.count(0), 2);
    }

    private static ChanceNets ofBlanks(int many) {
        return Nets.typed(" ".repeat(many));
    }

    // ---- promises 2 and 3

    private void letters() {
        dues.about("promise 2, A letter (0 .. 255)");
        Nets.range(dues, "type()", 0, 255, a -> new ChanceNets().type(a));
        ChanceNets x = new ChanceNets();
        x.type(-1);
        x.type(256);
        dues.due("letters behind refused ones", x.count(5), 0);
        x.type(0);
        x.type(255);
        dues.due("letters behind the least and the most", x.count(5), 2);
    }

    private void eightyLetters() {
        dues.about("promise 2, how many it has; FULL: 80");
        ChanceNets x = new ChanceNets();
        for (int i = 1; i <= MOST_LETTERS; i++) {
            dues.due("type() of letter " + i, x.type(' '), i);
        }
        dues.due("type() of letter 81", x.type(' '), FULL);
        dues.due("type() of letter 81 again", x.type('n'), FULL);
        dues.due("letters", x.count(5), MOST_LETTERS);
        dues.due("type(-1) of a full text", x.type(-1), BAD);
        dues.due("type(256) of a full text", x.type(256), BAD);
        x.clear();
        dues.due("type() behind clear()", x.type(' '), 1);
        x = ofBlanks(MOST_LETTERS);
        x.net();
        dues.due("type() behind net()", x.type(' '), 1);
    }

    private void fullTextIsRead() {
        dues.about("Terms, a text (80 letters at most)");
        ChanceNets x = Nets.typed(Nets.TEN + "       ");
        dues.due("letters", x.count(5), MOST_LETTERS);
        dues.due("type() of letter 81", x.type('x'), FULL);
        dues.due("net() of 80 letters", x.net(), 11);
        dues.due("lines", x.count(1), 10);
        taken("       " + Nets.TEN, 11);
        x = Nets.typed(" ".repeat(77) + "n6;");
        dues.due("net() of an item in the last letters", x.net(), 1);
        dues.due("nodes", x.count(0), 6);
        fault(" ".repeat(79) + "x", 79);
        fault(" ".repeat(79) + "e", 80);
        fault(" ".repeat(78) + "n6", 80);
        x = Nets.typed(" ".repeat(78) + "n6;");
        dues.due("net() of 80 letters, the 81st is no more there", x.net(), FAULT - 80);
    }

    private void clear() {
        dues.about("promise 3, how many letters it had");
        for (int many : new int[] {0, 1, 79, 80}) {
            ChanceNets x = ofBlanks(many);
            dues.due("clear() of " + many, x.clear(), many);
            dues.due("letters then", x.count(5), 0);
            dues.due("clear() again", x.clear(), 0);
        }
        ChanceNets x = ofBlanks(MOST_LETTERS);
        x.type(' ');
        dues.due("clear() of 80, one more being refused", x.clear(), MOST_LETTERS);
        x = Nets.typed("e0 1 ");
        x.clear();
        Nets.types(x, "n3;");
        dues.due("net() does not see what was there ahead of clear()", x.net(), 1);
        x = Nets.told(Nets.TRIANGLE);
        x.clear();
        dues.due("lines behind clear()", x.count(1), 4);
    }

    // ---- promise 4

    private void emptyThen() {
        dues.about("promise 4, and is empty then");
        ChanceNets x = Nets.typed("n3;e0 2 5;");
        dues.due("net()", x.net(), 2);
        dues.due("letters", x.count(5), 0);
        dues.due("clear()", x.clear(), 0);
        dues.due("net() of what is empty then", x.net(), 0);
        dues.due("nodes, told anew by an empty text", x.count(0), 2);
        dues.due("lines, told anew by an empty text", x.count(1), 0);
    }

    private void noItems() {
        dues.about("Terms, No ITEMS are no FAULT");
        for (int many : new int[] {0, 1, 2, 79, 80}) {
            taken(" ".repeat(many), 0);
        }
        ChanceNets x = Nets.told(Nets.TRIANGLE);
        x.type(' ');
        dues.due("net() of a blank", x.net(), 0);
        dues.due("nodes", x.count(0), 2);
        dues.due("lines", x.count(1), 0);
    }

    private void howManyItems() {
        dues.about("promise 4, how many ITEMS");
        taken("n2;", 1);
        taken("e0 1 1;", 1);
        taken("n2;e0 1 1;", 2);
        taken("n3;e0 1 1;e1 2 1;e0 2 1;", 4);
        taken(Nets.TEN, 11);
        taken(Nets.WIDEST, 11);
    }

    private void nodesTold() {
        dues.about("Terms, NODES (2 .. 6)");
        for (int n = 0; n <= 9; n++) {
            if (n >= 2 && n <= 6) {
                ChanceNets x = Nets.typed("n" + n + ";");
                dues.due("net() of n" + n, x.net(), 1);
                dues.due("nodes of n" + n, x.count(0), n);
            } else {
                fault("n" + n + ";", 1);
                fault(" n  " + n + " ;", 4);
            }
        }
    }

    private void nodesAtFirst() {
        dues.about("Terms, NODES (2 at first)");
        ChanceNets x = Nets.told(Nets.TEN);
        Nets.types(x, "e0 1 1;");
        dues.due("net() without n", x.net(), 1);
        dues.due("nodes without n", x.count(0), 2);
        fault("e0 2 1;", 3);
        fault("e2 0 1;", 1);
    }

    private void nodesFirstOfAll() {
        dues.about("Terms, n N the first of all; n behind another ITEM");
        taken("  n2;", 1);
        fault("n2;n2;", 3);
        fault("n2; n3;", 4);
        fault("e0 1 1;n2;", 7);
        fault("n3;e0 1 1;n3;", 10);
        fault("n2;e0 1 1;n", 10);
        fault("e0 1 1;n", 7);
        fault("nn2;", 1);
    }

    private void endsOfLines() {
        dues.about("Terms, NODES 0 .. as many as are told less 1");
        for (int n = 2; n <= 6; n++) {
            for (int u = 0; u <= 9; u++) {
                int other = u == 0 ? 1 : 0;
                String from = "n" + n + ";e" + u + " " + other + " 1;";
                String to = "n" + n + ";e" + other + " " + u + " 1;";
                if (u < n) {
                    taken(from, 2);
                    taken(to, 2);
                } else {
                    fault(from, 4);
                    fault(to, 6);
                }
            }
        }
    }

    private void twoUnlikeNodes() {
        dues.about("Terms, V that is U");
        for (int u = 0; u < 6; u++) {
            fault("n6;e" + u + " " + u + " 1;", 6);
            fault("n6;e" + u + "   " + u + " 1;", 8);
            int next = (u + 1) % 6;
            taken("n6;e" + u + " " + next + " 1;", 2);
        }
    }

    private void noneToldYet() {
        dues.about("Terms, V that has a LINE with U already");
        fault("e0 1 1;e0 1 1;", 10);
        fault("e0 1 1;e0 1 2;", 10);
        fault("e0 1 1;e1 0 1;", 10);
        fault("n6;e5 4 1;e3 4 1;e4 5 1;", 20);
        fault("n3;e0 1 1;e1 2 1;e2 1 1;", 20);
        fault("n3;e0 1 1;e1 2 1;e0 2 1;e0 1 1;", 27);
        taken("n3;e0 1 1;e0 2 1;", 3);
        taken("n3;e0 1 1;e2 1 1;", 3);
        // A line that was there, but is not told, does not count.
        ChanceNets x = Nets.told("n3;e0 1 1;");
        Nets.types(x, "n3;e0 1 2;");
        dues.due("net() with a line that was there", x.net(), 2);
        dues.due("its width", x.width(0, 1), 2);
        x = Nets.typed("n3;e0 1 1;x");
        x.net();
        x.clear();
        Nets.types(x, "n3;e0 1 2;");
        dues.due("net() with a line that a refused text had", x.net(), 2);
    }

    private void widths() {
        dues.about("Terms, WIDTH (1 .. 9)");
        fault("e0 1 0;", 5);
        for (int w = 1; w <= 9; w++) {
            ChanceNets x = Nets.typed("e0 1 " + w + ";");
            dues.due("net() of width " + w, x.net(), 1);
            dues.due("width", x.width(0, 1), w);
        }
        fault("e0 1 10;", 5);
        fault("e0 1   0;", 7);
    }

    private void tenLines() {
        dues.about("Terms, 10 at most; an eleventh e");
        String nine = Nets.TEN.substring(0, 66);
        taken(nine, 10);
        taken(Nets.TEN, 11);
        fault(Nets.TEN + "e", 73);
        fault(Nets.TEN + "e2 4 1;", 73);
        fault(Nets.TEN + " e", 74);
        fault(Nets.TEN + "      e", 79);
        fault(Nets.TEN + "e0 0", 73);
        fault(Nets.TEN + "n", 73);
        fault(Nets.TEN + ";", 73);
        // All pairs have lines here: a tenth one ahead of the eleventh.
        fault(Nets.WIDEST + "e", 73);
        fault("n2;e0 1 1;e", 11);
        fault("n3;e0 1 1;e0 2 1;e1 2 1;e", 25);
    }

    private void itemsEnded() {
        dues.about("Terms, ITEMS, each ended by ;");
        fault(";", 0);
        fault("  ;", 2);
        fault("n2;;", 3);
        fault("n2; ;", 4);
        fault("n2e0 1 1;", 2);
        fault("n2 e0 1 1;", 3);
        fault("n2 3;", 3);
        fault("e0 1 1e", 6);
        fault("e0 1 1 1;", 7);
        fault("e0 1 1;;", 7);
        fault("n;", 1);
        fault("n ;", 2);
        fault("e;", 1);
        fault("e0;", 2);
        fault("e0 1;", 4);
        fault("e0 1 ;", 5);
    }

    private void aboveNine() {
        dues.about("Terms, a NUMBER above 9, that TOKEN's");
        fault("n10;", 1);
        fault("n  10;", 3);
        fault("n22;", 1);
        fault("e10 1 1;", 1);
        fault("e0 10 1;", 3);
        fault("e0 11 1;", 3);
        fault("e0 1 10;", 5);
        fault("e0 1 99;", 5);
        fault("10;", 0);
        fault("n2;10", 3);
        // Rows that wrap around to 2, 0, 1 and 1 in 32 bits, then in 64 bits.
        fault("n4294967298;", 1);
        fault("e4294967296 1 1;", 1);
        fault("e0 4294967297 1;", 3);
        fault("e0 1 4294967297;", 5);
        fault("n18446744073709551618;", 1);
        fault("e18446744073709551616 1 1;", 1);
        fault("e0 18446744073709551617 1;", 3);
        fault("e0 1 18446744073709551617;", 5);
        fault("n" + "9".repeat(79), 1);
    }

    private void zeroAhead() {
        dues.about("Terms, a NUMBER with a 0 ahead of others, that TOKEN's");
        fault("n02;", 1);
        fault("n 02;", 2);
        fault("e00 1 1;", 1);
        fault("e01 0 1;", 1);
        fault("e0 01 1;", 3);
        fault("e1 00 1;", 3);
        fault("e0 1 01;", 5);
        fault("e0 1 00;", 5);
        fault("e0 1 09;", 5);
        fault("n" + "0".repeat(78) + "2", 1);
        taken("e0 1 1;", 1);
        taken("e1 0 1;", 1);
    }

    private void figures() {
        dues.about("Terms, NUMBERS (rows of figures)");
        char beforeZero = '0' - 1;
        char behindNine = '9' + 1;
        for (char other : new char[] {beforeZero, behindNine}) {
            fault("n" + other + ";", 1);
            fault("n2" + other + ";", 2);
            fault("e" + other + " 1 1;", 1);
            fault("e0 " + other + " 1;", 3);
            fault("e0 1 " + other + ";", 5);
            fault("e0 1 1" + other + ";", 6);
        }
        taken("e0 1 9;", 1);
        taken("e1 0 9;", 1);
    }

    // ---- tokens and blanks

    private void blanks() {
        dues.about("Terms, blanks (32) between TOKENS");
        taken(" n 3 ; e 0 1 2 ; e 2 1 3 ; ", 3);
        taken("   n   3   ;   e   0   1   2   ;   ", 2);
        for (char other : new char[] {31, 33, 0, 9, 10, 11, 12, 13, 96, 160, 255}) {
            fault(other + "n2;", 0);
            fault("n" + other + "2;", 1);
            fault("n2" + other + ";", 2);
            fault("n2;" + other, 3);
            fault("e0" + other + "1 1;", 2);
            fault("e0 1" + other + "1;", 4);
        }
    }

    private void noBlanksNeeded() {
        dues.about("Terms, where no figures meet there need be no blanks");
        taken("n3;e0 1 2;e1 2 3;", 3);
        fault("e01 1;", 1);
        fault("e0 11;", 3);
        fault("e011;", 1);
        // A blank parts a row of figures: two tokens, the second of which can't stand there.
        fault("n2 2;", 3);
        fault("e0 1 1 0;", 7);
    }

    private void otherLetters() {
        dues.about("Terms, of any other letter that TOKEN's");
        for (char letter = 0; letter <= 255; letter++) {
            boolean isHead = letter == 'n' || letter == 'e';
            if (letter == ' ') {
                taken("" + letter, 0);
                taken("n2;" + letter, 1);
            } else {
                fault("" + letter, isHead ? 1 : 0);
                fault("n2;" + letter, letter == 'e' ? 4 : 3);
            }
        }
    }

    private void otherLettersInAnItem() {
        dues.about("Terms, the first TOKEN that can't stand there");
        for (char letter = 0; letter <= 255; letter++) {
            boolean isFigure = letter >= '0' && letter <= '9';
            if (letter == ' ') {
                continue;
            }
            if (letter < '2' || letter > '6') fault("n" + letter + ";", 1);
            if (letter != ';') fault("n2" + letter + ";", isFigure ? 1 : 2);
            if (letter != '0' && letter != '1') fault("e" + letter + " 1 1;", 1);
            if (letter != '1') fault("e0 " + letter + " 1;", 3);
            if (letter == '0' || !isFigure) fault("e0 1 " + letter + ";", 5);
            if (letter != ';') fault("e0 1 1" + letter + ";", isFigure ? 5 : 6);
        }
    }

    private void endsTooEarly() {
        dues.about("Terms, the text's length, if it ends too early");
        String whole = "n3;e0 1 2;e2 1 9;";
        for (int length = 0; length <= whole.length(); length++) {
            String part = whole.substring(0, length);
            if (part.isEmpty() || part.endsWith(";")) {
                int items = part.length() - part.replace(";", "").length();
                taken(part, items);
                taken(part + "  ", items);
            } else {
                fault(part, length);
                fault(part + " ", length + 1);
                fault(part + "  ", length + 2);
            }
        }
    }

    private void firstOfSeveral() {
        dues.about("Terms, the first TOKEN");
        fault("n1;x", 1);
        fault("n1;n2;", 1);
        fault("n1", 1);
        fault("x;;;", 0);
        fault("n2;n10", 3);
        fault("e2 2 0;", 1);
        fault("e0 0 0;", 3);
        fault("e0 0", 3);
        fault("e0 2", 3);
        fault("e0 1 0", 5);
        fault("e0 1 0;e0 1 1;", 5);
        fault("e0 1 1;e0 1", 10);
        fault("e0 1 1;e0 1 10;", 10);
        fault("n2 x 10", 3);
    }

    private void faultChangesNothing() {
        dues.about("promise 4, -10 less FAULT: nothing changes");
        for (String text : new String[] {"n6;e0 1 9;e0 2 9;e0 3", "n1;", "x", "n3;e0 1 2;e1 0 2;", "n2;n2;"}) {
            ChanceNets x = full(text);
            dues.holds("net() of '" + text + "' is refused", x.net() <= FAULT);
            dues.same("behind '" + text + "'", Nets.everything(x), Nets.everything(full(text)));
        }
        ChanceNets x = Nets.typed("n3;e0 1 1");
        dues.due("net() that ends too early", x.net(), FAULT - 9);
        dues.due("the text goes on", x.type(';'), 10);
        dues.due("net() of the text that went on", x.net(), 2);
    }

    /** Something to be undone, something seen, both images, and a text that is not read yet. */
    private static ChanceNets full(String text) {
        ChanceNets x = Nets.told(Nets.TRIANGLE);
        x.keep(0);
        x.cuts(0);
        x.widens(0, 9);
        x.keep(1);
        x.lays(0, 3, 5);
        x.sees(x.trees());
        x.sees(0);
        return Nets.types(x, text);
    }
}

import java.util.Random;

/** Runs of calls drawn by a fixed seed, each answered by ChanceNets as by PlainNet. */
public final class PlainNetTest {
    private static final int RUNS = 400;
    private static final int CALLS = 512;

    private final Dues dues;
    private final Random random;
    private final ChanceNets x = new ChanceNets();
    private final PlainNet y = new PlainNet();
    private final String run;
    private int calls = 0;

    private PlainNetTest(Dues dues, int seed) {
        this.dues = dues;
        this.random = new Random(seed);
        this.run = "run " + seed;
    }

    public static void main(String[] args) {
        Dues dues = new Dues();
        for (int seed = 0; seed < RUNS && !dues.tooMany(); seed++) {
            new PlainNetTest(dues, seed).goes();
        }
        dues.end();
    }

    private void goes() {
        tells(someText());
        while (calls < CALLS - 90) {
            int what = random.nextInt(60);
            if (what == 0) {
                tells(someText());
            } else if (what < 16) {
                changes(what);
            } else {
                asks();
            }
            if (random.nextInt(4) == 0) {
                counts();
            }
        }
        looksAtLines();
    }

    private void due(String call, long got, long want) {
        calls++;
        dues.due(run + ", call " + calls + ": " + call, got, want);
    }

    private int below(int n) {
        return random.nextInt(n);
    }

    /** Mostly a number from 0 on below n, at times one beside it or far off. */
    private int near(int n) {
        int kind = below(30);
        if (kind == 0) return -1;
        if (kind == 1) return n;
        if (kind == 2) {
            return new int[] {Integer.MIN_VALUE, Integer.MAX_VALUE, 1 << 16, -7, 64, 36}[below(6)];
        }
        return below(Math.max(1, n));
    }

    private int node() {
        return near(y.count(0));
    }

    private int anyLine() {
        return near(y.count(1));
    }

    // ---- texts

    private String blanks() {
        return " ".repeat(below(8) == 0 ? below(3) : 0);
    }

    private String someText() {
        StringBuilder s = new StringBuilder();
        int nodes = 2;
        if (below(8) != 0) {
            nodes = 2 + below(5);
            s.append(blanks()).append('n').append(blanks()).append(nodes).append(blanks()).append(';');
        }
        int lines = below(11);
        boolean[] has = new boolean[36];
        for (int i = 0; i < lines; i++) {
            int u = below(nodes);
            int v = below(nodes);
            if (u == v || has[u * 6 + v]) continue;
            has[u * 6 + v] = true;
            has[v * 6 + u] = true;
            int w = below(3) == 0 ? 1 : 1 + below(9);
            s.append(blanks()).append('e').append(blanks()).append(u).append(' ').append(blanks()).append(v)
                .append(' ').append(blanks()).append(w).append(blanks()).append(';').append(blanks());
        }
        if (below(2) == 0) spoils(s);
        return s.substring(0, Math.min(s.length(), 82));
    }

    private void spoils(StringBuilder s) {
        String letters = "ne;  0123456789Ex\t";
        int many = 1 + below(2);
        for (int i = 0; i < many; i++) {
            int at = below(s.length() + 1);
            char letter = below(20) == 0 ? (char) below(256) : letters.charAt(below(letters.length()));
            switch (below(4)) {
                case 0: s.insert(at, letter); break;
                case 1: if (at < s.length()) s.deleteCharAt(at); break;
                case 2: if (at < s.length()) s.setCharAt(at, letter); break;
                default: s.setLength(at); break;
            }
        }
    }

    private void tells(String text) {
        if (calls + text.length() > CALLS - 60) return;
        for (int i = 0; i < text.length(); i++) {
            due("type(" + (int) text.charAt(i) + ")", x.type(text.charAt(i)), y.type(text.charAt(i)));
        }
        int want = y.net();
        due("net() of '" + text + "'", x.net(), want);
        counts();
        if (want < 0 && below(5) != 0) {
            due("clear()", x.clear(), y.clear());
        }
    }

    // ---- what is done

    private void changes(int what) {
        if (what < 5) {
            int u = node(), v = node(), w = below(12) - 1;
            due("lays(" + u + ", " + v + ", " + w + ")", x.lays(u, v, w), y.lays(u, v, w));
        } else if (what < 8) {
            int l = anyLine(), w = below(12) - 1;
            due("widens(" + l + ", " + w + ")", x.widens(l, w), y.widens(l, w));
        } else if (what < 10) {
            int l = anyLine();
            due("cuts(" + l + ")", x.cuts(l), y.cuts(l));
        } else if (what < 12) {
            due("undo()", x.undo(), y.undo());
        } else if (what < 13) {
            int i = near(2);
            due("keep(" + i + ")", x.keep(i), y.keep(i));
        } else if (what < 14) {
            int i = near(2);
            due("back(" + i + ")", x.back(i), y.back(i));
        } else if (what < 15) {
            long n = seenNumber();
            due("sees(" + n + ")", x.sees(n), y.sees(n));
        } else if (below(3) == 0) {
            due("forget()", x.forget(), y.forget());
        } else {
            int letter = below(300) - 20;
            due("type(" + letter + ")", x.type(letter), y.type(letter));
        }
    }

    private long seenNumber() {
        if (y.count(1) > 0 && below(8) != 0) return y.treesWithout(below(y.count(1)));
        return below(2) == 0 ? below(20) - 3 : random.nextLong();
    }

    // ---- what is asked

    private void asks() {
        int u = node(), v = node(), what = near(2);
        switch (below(13)) {
            case 0:
                due("hitting(" + u + ", " + v + ", " + what + ")", x.hitting(u, v, what), y.hitting(u, v, what));
                break;
            case 1: {
                int kind = near(2);
                due("between(" + u + ", " + v + ", " + kind + ", " + what + ")",
                    x.between(u, v, kind, what), y.between(u, v, kind, what));
                break;
            }
            case 2: {
                int b = node();
                due("ahead(" + u + ", " + v + ", " + b + ", " + what + ")",
                    x.ahead(u, v, b, what), y.ahead(u, v, b, what));
                break;
            }
            case 3: {
                int t = near(7), kind = near(3);
                due("walks(" + u + ", " + t + ", " + kind + ")", x.walks(u, t, kind), y.walks(u, t, kind));
                break;
            }
            case 4: due("trees()", x.trees(), y.trees()); break;
            case 5: {
                int l = anyLine();
                due("share(" + l + ", " + what + ")", x.share(l, what), y.share(l, what));
                break;
            }
            case 6: {
                int k = near(12);
                due("rank(" + k + ")", x.rank(k), y.rank(k));
                break;
            }
            case 7: {
                int w = near(3);
                due("reduced(" + u + ", " + v + ", " + w + ")", x.reduced(u, v, w), y.reduced(u, v, w));
                break;
            }
            case 8: due("worst(" + u + ", " + v + ")", x.worst(u, v), y.worst(u, v)); break;
            case 9:
                if (below(4) == 0) {
                    int c = near(11);
                    due("odds(" + c + ", " + what + ")", x.odds(c, what), y.odds(c, what));
                }
                break;
            case 10: due("unseen()", x.unseen(), y.unseen()); break;
            case 11: {
                int l = anyLine(), w = near(3);
                due("line(" + l + ", " + w + ")", x.line(l, w), y.line(l, w));
                break;
            }
            default: due("width(" + u + ", " + v + ")", x.width(u, v), y.width(u, v)); break;
        }
    }

    private void counts() {
        int what = near(7);
        due("count(" + what + ")", x.count(what), y.count(what));
    }

    private void looksAtLines() {
        for (int l = 0; l < 10; l++) {
            for (int what = 0; what < 3; what++) {
                due("line(" + l + ", " + what + ")", x.line(l, what), y.line(l, what));
            }
        }
        for (int what = 0; what < 7; what++) {
            due("count(" + what + ")", x.count(what), y.count(what));
        }
    }
}

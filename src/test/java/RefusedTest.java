import java.util.LinkedHashMap;
import java.util.Map;
import java.util.function.Supplier;

/** Refused calls, of the first reason that there is, and calls that ask: behind them nothing has changed. */
public final class RefusedTest {
    private static final int BAD = Nets.BAD, STATE = Nets.STATE, FULL = Nets.FULL, NONE = Nets.NONE;
    private static final int MIN = Integer.MIN_VALUE, MAX = Integer.MAX_VALUE;

    private interface Call {
        long answer(ChanceNets x);
    }

    private final Dues dues = new Dues();
    private final Map<String, Call> calls = new LinkedHashMap<>();

    public static void main(String[] args) {
        RefusedTest t = new RefusedTest();
        t.badNumbers();
        t.badAheadOfAll();
        t.stateWhereItDoesNotHang();
        t.stateOfLines();
        t.stateOfNothingKnown();
        t.full();
        t.faults();
        t.none();
        t.asked();
        t.dues.end();
    }

    // ---- states, each made anew for each call

    /** Something of all: changes, both images, things seen, a text. */
    private static ChanceNets busy() {
        ChanceNets x = Nets.told("n6;e0 1 1;e1 2 2;e2 3 3;e3 4 4;e4 5 5;e0 5 6;");
        x.keep(0);
        x.widens(0, 9);
        x.cuts(2);
        x.keep(1);
        x.lays(1, 4, 7);
        x.sees(0);
        return Nets.types(x, "n3;e0 2 8;");
    }

    /** The same, but the net does not hang together. */
    private static ChanceNets parted() {
        ChanceNets x = busy();
        x.cuts(1);
        x.cuts(0);
        return x;
    }

    /** As much of all as there may be. */
    private static ChanceNets crowded() {
        return crowded("n3;e1 2 4;" + " ".repeat(70));
    }

    private static ChanceNets crowded(String text) {
        ChanceNets x = Nets.told(Nets.TEN);
        x.keep(0);
        for (int i = 0; i < 13; i++) {
            x.widens(9, i % 9 + 2 > 9 ? 1 : i % 9 + 2);
        }
        x.keep(1);
        for (int i = 0; i < 6; i++) {
            x.sees(x.trees());
        }
        return Nets.types(x, text);
    }

    /** Runs all calls, each on an object of its own, and looks for what has changed behind it. */
    private void run(String state, Supplier<ChanceNets> maker, long want) {
        String before = Nets.everything(maker.get());
        for (Map.Entry<String, Call> call : calls.entrySet()) {
            ChanceNets x = maker.get();
            dues.due(call.getKey() + " of " + state, call.getValue().answer(x), want);
            dues.same("behind " + call.getKey() + " of " + state, Nets.everything(x), before);
        }
    }

    private void runInAll(long want) {
        run("a new object", ChanceNets::new, want);
        run("a busy object", RefusedTest::busy, want);
        run("a parted net", RefusedTest::parted, want);
        run("a crowded object", RefusedTest::crowded, want);
    }

    // ---- BAD

    private void badNumbers() {
        dues.about("Terms, Refused, and nothing changes: BAD (there is no such thing)");
        calls.clear();
        for (int off : new int[] {-1, 10, MIN, MAX}) {
            calls.put("line(" + off + ", 0)", x -> x.line(off, 0));
            calls.put("widens(" + off + ", 1)", x -> x.widens(off, 1));
            calls.put("cuts(" + off + ")", x -> x.cuts(off));
            calls.put("share(" + off + ", 0)", x -> x.share(off, 0));
            calls.put("lays(0, 1, " + off + ")", x -> x.lays(0, 1, off));
            calls.put("widens(0, " + off + ")", x -> x.widens(0, off));
        }
        for (int off : new int[] {-1, 6, MIN, MAX}) {
            calls.put("width(" + off + ", 0)", x -> x.width(off, 0));
            calls.put("width(0, " + off + ")", x -> x.width(0, off));
            calls.put("lays(" + off + ", 0, 1)", x -> x.lays(off, 0, 1));
            calls.put("lays(0, " + off + ", 1)", x -> x.lays(0, off, 1));
            calls.put("walks(" + off + ", 0, 0)", x -> x.walks(off, 0, 0));
        }
        for (int off : new int[] {-1, MIN, MAX}) {
            calls.put("type(" + off + ")", x -> x.type(off));
            calls.put("line(0, " + off + ")", x -> x.line(0, off));
            calls.put("walks(0, " + off + ", 0)", x -> x.walks(0, off, 0));
            calls.put("walks(0, 0, " + off + ")", x -> x.walks(0, 0, off));
            calls.put("odds(" + off + ", 0)", x -> x.odds(off, 0));
            calls.put("odds(0, " + off + ")", x -> x.odds(0, off));
            calls.put("keep(" + off + ")", x -> x.keep(off));
            calls.put("back(" + off + ")", x -> x.back(off));
            calls.put("count(" + off + ")", x -> x.count(off));
        }
        calls.put("type(256)", x -> x.type(256));
        calls.put("line(0, 3)", x -> x.line(0, 3));
        calls.put("lays(0, 0, 1)", x -> x.lays(0, 0, 1));
        calls.put("lays(0, 1, 0)", x -> x.lays(0, 1, 0));
        calls.put("widens(0, 0)", x -> x.widens(0, 0));
        calls.put("walks(0, 7, 0)", x -> x.walks(0, 7, 0));
        calls.put("walks(0, 0, 3)", x -> x.walks(0, 0, 3));
        calls.put("odds(11, 0)", x -> x.odds(11, 0));
        calls.put("odds(0, 2)", x -> x.odds(0, 2));
        calls.put("sees(-1)", x -> x.sees(-1));
        calls.put("sees(MIN)", x -> x.sees(Long.MIN_VALUE));
        calls.put("keep(2)", x -> x.keep(2));
        calls.put("back(2)", x -> x.back(2));
        calls.put("count(7)", x -> x.count(7));
        runInAll(BAD);
    }

    /** Two of the states hang together, two do not: there BAD and STATE meet. */
    private void badAheadOfAll() {
        dues.about("Terms, the first of these: BAD, STATE");
        calls.clear();
        for (int off : new int[] {-1, 6, MIN, MAX}) {
            calls.put("hitting(" + off + ", 0, 0)", x -> x.hitting(off, 0, 0));
            calls.put("hitting(0, " + off + ", 0)", x -> x.hitting(0, off, 0));
            calls.put("hitting(" + off + " twice, 0)", x -> x.hitting(off, off, 0));
            calls.put("hitting(0, 1, " + off + ")", x -> x.hitting(0, 1, off));
            calls.put("between(" + off + ", 0, 0, 0)", x -> x.between(off, 0, 0, 0));
            calls.put("between(0, " + off + ", 0, 0)", x -> x.between(0, off, 0, 0));
            calls.put("between(0, 1, " + off + ", 0)", x -> x.between(0, 1, off, 0));
            calls.put("between(0, 1, 0, " + off + ")", x -> x.between(0, 1, 0, off));
            calls.put("ahead(" + off + ", 0, 1, 0)", x -> x.ahead(off, 0, 1, 0));
            calls.put("ahead(0, " + off + ", 1, 0)", x -> x.ahead(0, off, 1, 0));
            calls.put("ahead(0, 1, " + off + ", 0)", x -> x.ahead(0, 1, off, 0));
            calls.put("ahead(0, 0, 1, " + off + ")", x -> x.ahead(0, 0, 1, off));
            calls.put("reduced(" + off + ", 0, 0)", x -> x.reduced(off, 0, 0));
            calls.put("reduced(0, " + off + ", 0)", x -> x.reduced(0, off, 0));
            calls.put("reduced(0, 1, " + off + ")", x -> x.reduced(0, 1, off));
            calls.put("worst(" + off + ", 0)", x -> x.worst(off, 0));
            calls.put("worst(0, " + off + ")", x -> x.worst(0, off));
            calls.put("share(0, " + off + ")", x -> x.share(0, off));
        }
        calls.put("hitting(0, 1, 2)", x -> x.hitting(0, 1, 2));
        calls.put("hitting(1, 1, 2)", x -> x.hitting(1, 1, 2));
        calls.put("between(0, 1, 2, 0)", x -> x.between(0, 1, 2, 0));
        calls.put("between(0, 1, 1, 2)", x -> x.between(0, 1, 1, 2));
        calls.put("ahead(0, 1, 1, 0)", x -> x.ahead(0, 1, 1, 0));
        calls.put("ahead(1, 1, 1, 0)", x -> x.ahead(1, 1, 1, 0));
        calls.put("ahead(0, 0, 1, 2)", x -> x.ahead(0, 0, 1, 2));
        calls.put("share(0, 2)", x -> x.share(0, 2));
        calls.put("rank(-1)", x -> x.rank(-1));
        calls.put("rank(MIN)", x -> x.rank(MIN));
        calls.put("reduced(1, 1, 0)", x -> x.reduced(1, 1, 0));
        calls.put("reduced(0, 1, 3)", x -> x.reduced(0, 1, 3));
        calls.put("worst(1, 1)", x -> x.worst(1, 1));
        runInAll(BAD);
    }

    // ---- STATE

    private void stateWhereItDoesNotHang() {
        dues.about("Terms, STATE (what is told just where the net HANGS TOGETHER, where it does not)");
        calls.clear();
        calls.put("hitting(0, 1, 0)", x -> x.hitting(0, 1, 0));
        calls.put("hitting(1, 1, 1)", x -> x.hitting(1, 1, 1));
        calls.put("between(0, 1, 0, 0)", x -> x.between(0, 1, 0, 0));
        calls.put("between(1, 0, 1, 1)", x -> x.between(1, 0, 1, 1));
        calls.put("between(0, 0, 1, 0)", x -> x.between(0, 0, 1, 0));
        calls.put("ahead(0, 0, 1, 0)", x -> x.ahead(0, 0, 1, 0));
        calls.put("ahead(1, 0, 1, 1)", x -> x.ahead(1, 0, 1, 1));
        calls.put("rank(0)", x -> x.rank(0));
        calls.put("rank(10)", x -> x.rank(10));
        calls.put("rank(MAX)", x -> x.rank(MAX));
        calls.put("reduced(0, 1, 0)", x -> x.reduced(0, 1, 0));
        calls.put("reduced(0, 1, 1)", x -> x.reduced(0, 1, 1));
        calls.put("reduced(1, 0, 2)", x -> x.reduced(1, 0, 2));
        calls.put("worst(0, 1)", x -> x.worst(0, 1));
        run("a new object", ChanceNets::new, STATE);
        run("a parted net", RefusedTest::parted, STATE);
        calls.clear();
        calls.put("share(0, 0)", x -> x.share(0, 0));
        calls.put("share(0, 1)", x -> x.share(0, 1));
        run("a parted net", RefusedTest::parted, STATE);
        calls.clear();
        calls.put("share(0, 0) without lines", x -> x.share(0, 0));
        run("a new object", ChanceNets::new, BAD);
    }

    private void stateOfLines() {
        dues.about("promises 7 and 8, STATE: there is one; it is that");
        calls.clear();
        calls.put("lays(0, 1, 9)", x -> x.lays(0, 1, 9));
        calls.put("lays(1, 0, 1)", x -> x.lays(1, 0, 1));
        calls.put("lays(5, 0, 1)", x -> x.lays(5, 0, 1));
        calls.put("widens(0, as it is)", x -> x.widens(0, x.line(0, 2)));
        calls.put("widens(1, as it is)", x -> x.widens(1, x.line(1, 2)));
        run("a busy object", RefusedTest::busy, STATE);
        run("a crowded object", RefusedTest::crowded, STATE);
    }

    private void stateOfNothingKnown() {
        dues.about("promises 10 and 25, STATE: none; none was kept");
        calls.clear();
        calls.put("undo()", x -> x.undo());
        calls.put("back(0)", x -> x.back(0));
        calls.put("back(1)", x -> x.back(1));
        run("a new object", ChanceNets::new, STATE);
        run("a net that was told", () -> Nets.types(Nets.told(Nets.TRIANGLE), "n3;"), STATE);
    }

    // ---- FULL, faults, NONE

    private void full() {
        dues.about("promises 2, 7 and 21, FULL: 80; 10; 6");
        calls.clear();
        calls.put("type(0)", x -> x.type(0));
        calls.put("type(59)", x -> x.type(59));
        calls.put("type(255)", x -> x.type(255));
        calls.put("lays(4, 5, 1)", x -> x.lays(4, 5, 1));
        calls.put("lays(2, 4, 9)", x -> x.lays(2, 4, 9));
        calls.put("sees(0)", x -> x.sees(0));
        calls.put("sees(MAX)", x -> x.sees(Long.MAX_VALUE));
        run("a crowded object", RefusedTest::crowded, FULL);
    }

    private void faults() {
        dues.about("promise 4, -10 less FAULT: nothing changes");
        calls.clear();
        calls.put("net()", x -> x.net());
        run("a busy object with a fault", () -> Nets.types(busy(), "e0 1 1;e1 1"), -10 - 20);
        run("a parted net, its text too short", () -> Nets.types(parted(), "e0 1 1"), -10 - 16);
        run("a crowded object with a fault", () -> crowded("n6;e0 1 9;" + " ".repeat(69) + "x"), -10 - 79);
    }

    private void none() {
        dues.about("promises 17 to 19, NONE");
        calls.clear();
        calls.put("rank(10)", x -> x.rank(10));
        calls.put("rank(MAX)", x -> x.rank(MAX));
        run("a busy object", RefusedTest::busy, NONE);
        run("a crowded object", RefusedTest::crowded, NONE);
        calls.clear();
        calls.put("worst(0, 2)", x -> x.worst(0, 2));
        run("a row", () -> Nets.path(3), NONE);
        calls.clear();
        calls.put("reduced(2, 3, 1)", x -> x.reduced(2, 3, 1));
        calls.put("reduced(2, 3, 2)", x -> x.reduced(2, 3, 2));
        run("each with each", () -> Nets.told(Nets.WIDEST), NONE);
    }

    // ---- calls that ask

    /** What they answer is told elsewhere; here it is just the same before and behind. */
    private void asked() {
        dues.about("Terms, (Nothing is changed.)");
        calls.clear();
        for (int u = 0; u < 2; u++) {
            int from = u;
            int to = 1 - u;
            calls.put("hitting from " + u, x -> x.hitting(from, to, 0));
            calls.put("between from " + u, x -> x.between(from, to, to, 1));
            calls.put("ahead of " + u, x -> x.ahead(0, from, to, 1));
            calls.put("walks from " + u, x -> x.walks(from, 6, 2));
            calls.put("reduced from " + u, x -> x.reduced(from, to, 0));
            calls.put("reduced upper from " + u, x -> x.reduced(from, to, 1));
            calls.put("worst from " + u, x -> x.worst(from, to));
        }
        calls.put("line(0, 0)", x -> x.line(0, 0));
        calls.put("line(4, 2)", x -> x.line(4, 2));
        calls.put("width(0, 0)", x -> x.width(0, 0));
        calls.put("width(0, 1)", x -> x.width(0, 1));
        calls.put("trees()", x -> x.trees());
        calls.put("share(4, 0)", x -> x.share(4, 0));
        calls.put("rank(0)", x -> x.rank(0));
        calls.put("rank(5)", x -> x.rank(5));
        calls.put("odds(3, 0)", x -> x.odds(3, 0));
        calls.put("unseen()", x -> x.unseen());
        for (int what = 0; what <= 6; what++) {
            int of = what;
            calls.put("count(" + what + ")", x -> x.count(of));
        }
        asks("a new object", ChanceNets::new);
        asks("a busy object", RefusedTest::busy);
        asks("a parted net", RefusedTest::parted);
        asks("a crowded object", RefusedTest::crowded);
    }

    private void asks(String state, Supplier<ChanceNets> maker) {
        String before = Nets.everything(maker.get());
        for (Map.Entry<String, Call> call : calls.entrySet()) {
            ChanceNets x = maker.get();
            long first = call.getValue().answer(x);
            dues.due(call.getKey() + " of " + state + " again", call.getValue().answer(x), first);
            dues.same("behind " + call.getKey() + " of " + state, Nets.everything(x), before);
        }
    }
}

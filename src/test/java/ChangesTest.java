import java.util.EnumMap;
import java.util.EnumSet;
import java.util.Map;
import java.util.Set;
import java.util.function.Supplier;

/** Each call that does something changes those parts of an object that its promise tells, and no other one. */
public final class ChangesTest {
    private static final int MOST_UNDONE = 12;
    private static final int MOST_SEEN = 6;
    /** A ring of six nodes: without its line l the trees are 2520 by that line's width. */
    private static final int[] RING = {1, 2, 3, 4, 5, 7};
    private static final int RING_TREES = 1 * 2 * 3 * 4 * 5 * 7;

    private enum Part { TEXT, LINES, PAST, SEEN, IMAGE_0, IMAGE_1 }

    private interface Call {
        long answer(ChanceNets x);
    }

    private final Dues dues = new Dues();

    public static void main(String[] args) {
        ChangesTest t = new ChangesTest();
        t.type();
        t.clear();
        t.net();
        t.lays();
        t.widens();
        t.cuts();
        t.undo();
        t.sees();
        t.forget();
        t.keep();
        t.back();
        t.undoTakesAllBack();
        t.keepAndBack();
        t.dues.end();
    }

    // ---- states, each made anew for each look

    /** Something of all; the lines of now are neither those of image 0 nor those of image 1. */
    private static ChanceNets busy() {
        ChanceNets x = Nets.told("n6;e0 1 1;e1 2 2;e2 3 3;e3 4 4;e4 5 5;e0 5 6;");
        x.keep(0);
        x.widens(0, 9);
        x.cuts(2);
        x.keep(1);
        x.lays(1, 4, 7);
        x.sees(RING_TREES / 3);
        return Nets.types(x, "n3;e0 2 8;");
    }

    /** The same, but the net does not hang together. */
    private static ChanceNets parted() {
        ChanceNets x = busy();
        x.cuts(1);
        x.cuts(0);
        return x;
    }

    /** Full of changes, but for the lines, what is seen and the text there is room for one more. */
    private static ChanceNets nearlyFull() {
        ChanceNets x = Nets.told(Nets.TEN);
        x.keep(0);
        x.cuts(9);
        x.keep(1);
        for (int i = 0; i < MOST_UNDONE; i++) {
            x.widens(i % 9, x.line(i % 9, 2) % 9 + 1);
        }
        for (int i = 1; i < MOST_SEEN; i++) {
            x.sees(RING_TREES / 4);
        }
        return Nets.types(x, "n4;e1 2 4;" + " ".repeat(69));
    }

    // ---- what is seen of a part; the object is used up by it

    private static String look(ChanceNets x, Part part) {
        switch (part) {
            case TEXT: return x.count(5) + " letters, net " + x.net() + ": " + Nets.lines(x) + x.count(5);
            case LINES: return x.count(0) + " " + x.count(1) + " " + x.count(2) + " " + x.count(3) + ": "
                + Nets.widths(x);
            case PAST: return past(x);
            case SEEN: return seen(x);
            case IMAGE_0: return x.back(0) + ": " + Nets.widths(x);
            default: return x.back(1) + ": " + Nets.widths(x);
        }
    }

    private static String past(ChanceNets x) {
        StringBuilder s = new StringBuilder(x.count(6) + " known");
        for (int i = 0; i <= MOST_UNDONE; i++) {
            s.append(", ").append(x.undo()).append(": ").append(Nets.widths(x));
        }
        return s.toString();
    }

    /** What was seen is asked of one and the same ring, whatever the lines were. */
    private static String seen(ChanceNets x) {
        StringBuilder s = new StringBuilder(x.count(4) + " seen");
        for (int i = 0; i < 10 && x.count(1) > 0; i++) {
            x.cuts(0);
        }
        for (int u = 0; u < 6; u++) {
            x.lays(u, (u + 1) % 6, RING[u]);
        }
        s.append(", unseen ").append(x.unseen());
        for (int i = 0; i <= MOST_SEEN; i++) {
            s.append(", ").append(x.sees(0));
        }
        return s.toString();
    }

    // ---- before and behind

    private void changes(String name, Supplier<ChanceNets> maker, Call call, Set<Part> changed) {
        Map<Part, String> behind = new EnumMap<>(Part.class);
        for (Part part : Part.values()) {
            ChanceNets x = maker.get();
            long answer = call.answer(x);
            dues.holds(name + " is not refused", answer >= 0);
            behind.put(part, look(x, part));
        }
        for (Part part : Part.values()) {
            String before = look(maker.get(), part);
            if (changed.contains(part)) {
                dues.holds(name + " changes " + part, !before.equals(behind.get(part)));
            } else {
                dues.same(part + " behind " + name, behind.get(part), before);
            }
        }
    }

    private void changesInAll(String name, Call call, Set<Part> changed) {
        changes(name + " of a busy object", ChangesTest::busy, call, changed);
        changes(name + " of a parted net", ChangesTest::parted, call, changed);
        changes(name + " of a nearly full object", ChangesTest::nearlyFull, call, changed);
    }

    private void type() {
        dues.about("promise 2, A letter comes to THE TEXT");
        changesInAll("type('x')", x -> x.type('x'), EnumSet.of(Part.TEXT));
        changesInAll("type(0)", x -> x.type(0), EnumSet.of(Part.TEXT));
    }

    private void clear() {
        dues.about("promise 3, THE TEXT is empty");
        changesInAll("clear()", ChanceNets::clear, EnumSet.of(Part.TEXT));
    }

    private void net() {
        dues.about("promise 4, THE TEXT tells all anew, and is empty then");
        changesInAll("net()", ChanceNets::net, EnumSet.allOf(Part.class));
    }

    private void lays() {
        dues.about("promise 7, LAID");
        changesInAll("lays(3, 5, 1)", x -> x.lays(3, 5, 1), EnumSet.of(Part.LINES, Part.PAST));
    }

    private void widens() {
        dues.about("promise 8, WIDENED");
        changesInAll("widens(0, another)", x -> x.widens(0, x.line(0, 2) % 9 + 1), EnumSet.of(Part.LINES, Part.PAST));
    }

    private void cuts() {
        dues.about("promise 9, CUT");
        changesInAll("cuts(0)", x -> x.cuts(0), EnumSet.of(Part.LINES, Part.PAST));
    }

    private void undo() {
        dues.about("promise 10, UNDONE");
        changesInAll("undo()", ChanceNets::undo, EnumSet.of(Part.LINES, Part.PAST));
    }

    private void sees() {
        dues.about("promise 21, SEEN");
        changesInAll("sees(7)", x -> x.sees(7), EnumSet.of(Part.SEEN));
    }

    private void forget() {
        dues.about("promise 22, Nothing is SEEN");
        changesInAll("forget()", ChanceNets::forget, EnumSet.of(Part.SEEN));
    }

    private void keep() {
        dues.about("promise 24, An IMAGE is kept");
        changesInAll("keep(0)", x -> x.keep(0), EnumSet.of(Part.IMAGE_0));
        changesInAll("keep(1)", x -> x.keep(1), EnumSet.of(Part.IMAGE_1));
    }

    private void back() {
        dues.about("promise 25, All of that becomes as an IMAGE has it; nothing can be UNDONE behind back()");
        changesInAll("back(0)", x -> x.back(0), EnumSet.of(Part.LINES, Part.PAST));
        changesInAll("back(1)", x -> x.back(1), EnumSet.of(Part.LINES, Part.PAST));
    }

    // ---- one call takes back what another has done

    private void undoTakesAllBack() {
        dues.about("Terms, UNDONE: lays(), widens(), cuts()");
        Call[] done = {x -> x.lays(3, 5, 1), x -> x.lays(0, 2, 9), x -> x.widens(0, x.line(0, 2) % 9 + 1),
            x -> x.widens(x.count(1) - 1, x.line(x.count(1) - 1, 2) % 9 + 1), x -> x.cuts(0), x -> x.cuts(1),
            x -> x.cuts(x.count(1) - 1)};
        for (int i = 0; i < done.length; i++) {
            for (ChanceNets x : new ChanceNets[] {busy(), parted()}) {
                String name = "call " + i + " of " + Nets.counts(x);
                boolean hangs = x.count(3) == 1;
                dues.holds(name + " is not refused", done[i].answer(x) >= 0);
                dues.holds("undo() behind " + name, x.undo() >= 0);
                dues.same("all behind undo() of " + name, Nets.everything(x),
                    Nets.everything(hangs ? busy() : parted()));
            }
        }
    }

    private void keepAndBack() {
        dues.about("promises 24 and 25, what was kept is there again");
        for (int image = 0; image < 2; image++) {
            for (Part part : new Part[] {Part.LINES, Part.TEXT, Part.SEEN}) {
                ChanceNets x = busy();
                x.keep(image);
                x.cuts(0);
                x.lays(0, 2, 3);
                x.back(image);
                dues.same(part + " behind keep() and back()", look(x, part), look(busy(), part));
            }
        }
    }
}

import java.util.ArrayList;
import java.util.LinkedHashMap;
import java.util.List;
import java.util.Map;

/** An object is used for at most 512 calls: the last one is answered as the first ones are, whatever came ahead. */
public final class LastCallTest {
    private static final int CALLS = 512;

    private interface Call {
        long answer(ChanceNets x);
    }

    private final Dues dues = new Dues();
    private final List<Call> noise = new ArrayList<>();
    private final List<Call> ways = new ArrayList<>();
    private final Map<String, Call> lasts = new LinkedHashMap<>();

    public static void main(String[] args) {
        LastCallTest t = new LastCallTest();
        t.fillNoise();
        t.fillWays();
        t.fillLasts();
        t.lastOfAll();
        t.againAndAgain();
        t.twoObjectsByTurns();
        t.dues.end();
    }

    /** All kinds of calls, some of them refused; run round and round they fill what can be filled. */
    private void fillNoise() {
        for (char letter : "n5;e0 4 3;e1 2 9;e2 3 1;e3 4 8;e0 1 2;e1 3 4;".toCharArray()) {
            noise.add(x -> x.type(letter));
        }
        noise.add(ChanceNets::net);
        noise.add(x -> x.keep(1));
        for (int i = 0; i < 14; i++) {
            int w = i % 9 + 1;
            noise.add(x -> x.widens(w % 5, w));
            noise.add(x -> x.lays(w % 4, 4, w));
            noise.add(x -> x.cuts(w % 6));
            noise.add(x -> x.sees(w));
            noise.add(x -> x.hitting(w % 5, 4, 0));
            noise.add(x -> x.walks(w % 5, w % 7, w % 3));
        }
        noise.add(x -> x.between(0, 3, 1, 1));
        noise.add(x -> x.ahead(1, 0, 3, 0));
        noise.add(ChanceNets::trees);
        noise.add(x -> x.share(1, 1));
        noise.add(x -> x.rank(2));
        noise.add(x -> x.reduced(0, 2, 1));
        noise.add(x -> x.worst(1, 3));
        noise.add(x -> x.odds(3, 0));
        noise.add(ChanceNets::unseen);
        noise.add(x -> x.keep(0));
        noise.add(ChanceNets::undo);
        noise.add(x -> x.back(1));
        noise.add(x -> x.line(9, 9));
        noise.add(x -> x.width(-1, 9));
        noise.add(x -> x.count(7));
        noise.add(x -> x.type('x'));
        noise.add(ChanceNets::net);
        noise.add(ChanceNets::clear);
    }

    /** From any state to one and the same: all is told anew, then something of all is done. */
    private void fillWays() {
        ways.add(ChanceNets::clear);
        for (char letter : Nets.TEN.toCharArray()) {
            ways.add(x -> x.type(letter));
        }
        ways.add(ChanceNets::net);
        ways.add(x -> x.keep(0));
        ways.add(x -> x.cuts(3));
        ways.add(x -> x.widens(0, 5));
        ways.add(x -> x.sees(x.trees()));
        ways.add(x -> x.type('n'));
    }

    private void fillLasts() {
        lasts.put("type(51)", x -> x.type(51));
        lasts.put("clear()", ChanceNets::clear);
        lasts.put("net()", ChanceNets::net);
        lasts.put("line(8, 2)", x -> x.line(8, 2));
        lasts.put("width(0, 0)", x -> x.width(0, 0));
        lasts.put("lays(4, 5, 1)", x -> x.lays(4, 5, 1));
        lasts.put("lays(0, 1, 1)", x -> x.lays(0, 1, 1));
        lasts.put("widens(1, 9)", x -> x.widens(1, 9));
        lasts.put("cuts(8)", x -> x.cuts(8));
        lasts.put("undo()", ChanceNets::undo);
        lasts.put("hitting(0, 5, 0)", x -> x.hitting(0, 5, 0));
        lasts.put("between(4, 5, 1, 1)", x -> x.between(4, 5, 1, 1));
        lasts.put("ahead(2, 4, 5, 0)", x -> x.ahead(2, 4, 5, 0));
        for (int kind = 0; kind < 3; kind++) {
            int of = kind;
            lasts.put("walks(0, 6, " + kind + ")", x -> x.walks(0, 6, of));
        }
        lasts.put("trees()", ChanceNets::trees);
        lasts.put("share(4, 0)", x -> x.share(4, 0));
        lasts.put("rank(3)", x -> x.rank(3));
        lasts.put("reduced(2, 3, 0)", x -> x.reduced(2, 3, 0));
        lasts.put("worst(0, 5)", x -> x.worst(0, 5));
        lasts.put("odds(7, 0)", x -> x.odds(7, 0));
        lasts.put("sees(5)", x -> x.sees(5));
        lasts.put("forget()", ChanceNets::forget);
        lasts.put("unseen()", ChanceNets::unseen);
        lasts.put("keep(1)", x -> x.keep(1));
        lasts.put("back(0)", x -> x.back(0));
        lasts.put("back(1)", x -> x.back(1));
        for (int what = 0; what <= 6; what++) {
            int of = what;
            lasts.put("count(" + what + ")", x -> x.count(of));
        }
    }

    /** An object that has had so many calls; one of the ways, sees(trees()), is two of them. */
    private ChanceNets usedFor(int calls) {
        ChanceNets x = new ChanceNets();
        for (int i = 0; i < calls - ways.size() - 1; i++) {
            noise.get(i % noise.size()).answer(x);
        }
        goesAllWays(x);
        return x;
    }

    private void goesAllWays(ChanceNets x) {
        for (Call way : ways) {
            way.answer(x);
        }
    }

    private void lastOfAll() {
        dues.about("What it is, at most 512 calls after it has been made");
        for (Map.Entry<String, Call> last : lasts.entrySet()) {
            ChanceNets young = new ChanceNets();
            goesAllWays(young);
            long want = last.getValue().answer(young);
            dues.due("call 512, " + last.getKey(), last.getValue().answer(usedFor(CALLS - 1)), want);
            dues.due("call 400, " + last.getKey(), last.getValue().answer(usedFor(399)), want);
        }
    }

    private void againAndAgain() {
        dues.about("LANGUAGE.md 13, the same calls always give the same answers");
        String[] names = {"line(8, 2)", "width(0, 0)", "lays(0, 1, 1)", "hitting(0, 5, 0)", "between(4, 5, 1, 1)",
            "ahead(2, 4, 5, 0)", "walks(0, 6, 2)", "trees()", "share(4, 0)", "rank(3)", "reduced(2, 3, 0)",
            "worst(0, 5)", "odds(7, 0)", "unseen()", "net()", "keep(1)", "count(6)"};
        for (String name : names) {
            ChanceNets x = new ChanceNets();
            goesAllWays(x);
            Call call = lasts.get(name);
            long first = call.answer(x);
            for (int i = ways.size() + 3; i <= CALLS; i++) {
                dues.due("call " + i + ", " + name, call.answer(x), first);
            }
        }
    }

    private void twoObjectsByTurns() {
        dues.about("promise 1, a new object: nothing is shared with another one");
        ChanceNets x = new ChanceNets();
        ChanceNets y = new ChanceNets();
        ChanceNets alone = new ChanceNets();
        List<Long> want = new ArrayList<>();
        for (int i = 0; i < 300; i++) {
            want.add(noise.get(i % noise.size()).answer(alone));
        }
        for (int i = 0; i < 300; i++) {
            noise.get((i + 31) % noise.size()).answer(y);
            dues.due("call " + i + " by turns", noise.get(i % noise.size()).answer(x), want.get(i));
        }
    }
}

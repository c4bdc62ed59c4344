import java.util.ArrayList;
import java.util.LinkedHashMap;
import java.util.List;
import java.util.Map;
import java.util.function.Consumer;
import java.util.function.ToLongFunction;

/** A call that is refused, or that only asks, changes nothing that other calls show, wherever it comes. */
final class RefusedTest {
    private static final Due due = new Due();

    private record Call(String name, ToLongFunction<FencedStates> call, long refused) { }

    public static void main(String[] args) {
        for (Map.Entry<String, Consumer<FencedStates>> at : places().entrySet()) {
            List<Call> calls = refused(Look.made(at.getValue()));
            look(at.getKey(), at.getValue(), calls);
        }
        due.sentence(0, "All that follows changes nothing but what is told.");
        for (Map.Entry<String, Consumer<FencedStates>> at : places().entrySet()) {
            look("asked " + at.getKey(), at.getValue(), asked());
        }
        textAtFault();
        due.end();
    }

    /** Each call alone, then all together with what undo(), back() and load() show behind them. */
    private static void look(String where, Consumer<FencedStates> at, List<Call> calls) {
        Consumer<FencedStates> all = at;
        for (Call c : calls) {
            FencedStates x = Look.made(at);
            long got = c.call.applyAsLong(x);
            if (c.refused != Long.MIN_VALUE) {
                due.is(where + ": " + c.name, got, c.refused);
            }
            Look.same(due, where + " behind " + c.name, at, at.andThen(y -> c.call.applyAsLong(y)), true);
            all = all.andThen(y -> c.call.applyAsLong(y));
        }
        Look.alike(due, where + " behind all of them", at, all);
    }

    private static Map<String, Consumer<FencedStates>> places() {
        Map<String, Consumer<FencedStates>> places = new LinkedHashMap<>();
        places.put("at first", x -> { });
        places.put("in PHASE 1", RefusedTest::told);
        places.put("in PHASE 2", x -> {
            Due.read(x, EdgeFramesTest.ROUND);
            x.load(0);
            x.step(10);
        });
        places.put("in PHASE 3", x -> {
            told(x);
            x.step(500);
        });
        places.put("in PHASE 4", x -> {
            Due.read(x, EdgeFramesTest.ROUND);
            x.load(0);
            x.claim(1, 1);
            x.step(500);
        });
        places.put("when all is full", RefusedTest::full);
        places.put("with a FENCE of 13", x -> {
            Due.read(x, "letters 4;");
            x.load(0);
            for (int n = 1; n <= 13; n++) {
                x.bar(15, n, 1);
            }
            x.claim(15, 0);
            x.step(500);
        });
        return places;
    }

    private static void told(FencedStates x) {
        Due.read(x, "bad");
        Due.read(x, StepsTest.SAFE);
        x.mode(1);
        x.load(0);
        x.claim(3, 3);
        x.image();
        x.claim(1, 1);
        x.step(7);
        Due.feed(x, "bad a");
    }

    /** 4 TEXTS, 300 bytes, 12 CLAIMS and 20 STEPS that can be taken back. */
    private static void full(FencedStates x) {
        for (int n = 0; n < 4; n++) {
            Due.read(x, n == 2 ? StepsTest.SAFE : "");
        }
        x.load(2);
        for (int n = 0; n < 10; n++) {
            x.mode(n % 3);
        }
        for (int n = 0; n < 12; n++) {
            x.claim(n % 4, n % 4);
        }
        for (int n = 0; n < 15; n++) {
            x.feed(n, n, n, n, n);
        }
    }

    private static List<Call> refused(FencedStates x) {
        List<Call> calls = new ArrayList<>();
        tape(calls, x);
        machines(calls, x);
        cubes(calls, x);
        claims(calls, x);
        steps(calls, x);
        return calls;
    }

    private static int[] with(int... more) {
        int[] row = java.util.Arrays.copyOf(more, more.length + 4);
        row[more.length] = Integer.MIN_VALUE;
        row[more.length + 1] = Integer.MAX_VALUE;
        row[more.length + 2] = -2;
        row[more.length + 3] = 1 << 20;
        return row;
    }

    private static void tape(List<Call> calls, FencedStates x) {
        if (x.about(3) > 280) {
            calls.add(new Call("feed", y -> y.feed(1, 2, 3, 4, 5), -1));
        }
        for (int n : with(x.about(3) + 1, -1, 301)) {
            calls.add(new Call("end(" + n + ")", y -> y.end(n), -1));
        }
        if (x.about(0) == 4) {
            calls.add(new Call("text()", y -> y.text(), -1));
        }
    }

    private static void machines(List<Call> calls, FencedStates x) {
        for (int n : with(x.about(0), -1, 4)) {
            calls.add(new Call("load(" + n + ")", y -> y.load(n), -1));
        }
        for (int n : with(-1, 10000)) {
            calls.add(new Call("drawn(" + n + ", 3)", y -> y.drawn(n, 3) ? 1 : 0, 0));
        }
        for (int n : with(-1, 0, 7)) {
            calls.add(new Call("drawn(5, " + n + ")", y -> y.drawn(5, n) ? 1 : 0, 0));
        }
        for (int n : with(-1, x.is(4), 4)) {
            calls.add(new Call("aim(" + n + ")", y -> y.aim(n) ? 1 : 0, 0));
        }
        for (int n : with(-1, 3)) {
            calls.add(new Call("mode(" + n + ")", y -> y.mode(n) ? 1 : 0, 0));
        }
    }

    private static void cubes(List<Call> calls, FencedStates x) {
        int all = (1 << x.is(0)) - 1;
        for (int n : with(-1, all + 1)) {
            calls.add(new Call("bar(" + n + ", 1, 1)", y -> y.bar(n, 1, 1), -1));
            calls.add(new Call("bar(" + all + ", " + n + ", 1)", y -> y.bar(all, n, 1), -1));
            calls.add(new Call("claim(" + n + ", 0)", y -> y.claim(n, 0), -1));
            calls.add(new Call("claim(" + all + ", " + n + ")", y -> y.claim(all, n), -1));
        }
        for (int n : with(-1, 0, x.is(1) + 1)) {
            calls.add(new Call("bar(" + all + ", " + all + ", " + n + ")", y -> y.bar(all, all, n), -1));
        }
        calls.add(new Call("bar of STATE 0", y -> y.bar(all, 0, 1), -1));
        calls.add(new Call("bar of all", y -> y.bar(0, 0, 1), -1));
        calls.add(new Call("bar(1, 2, 1)", y -> y.bar(1, 2, 1), -1));
        calls.add(new Call("claim(1, 2)", y -> y.claim(1, 2), -1));
        if (x.is(2) > 1) {
            calls.add(new Call("bar in another PHASE", y -> y.bar(all, all, 1), -1));
        }
    }

    private static void claims(List<Call> calls, FencedStates x) {
        int many = x.about(2);
        for (int n : with(-1, many)) {
            calls.add(new Call("unclaim(" + n + ")", y -> y.unclaim(n), -1));
            calls.add(new Call("loosen(" + n + ")", y -> y.loosen(n), -1));
        }
        if (many == 12) {
            calls.add(new Call("the 13th", y -> y.claim(1, 1), -1));
        }
        if (x.judged(0) != 0) {
            calls.add(new Call("loosen(0)", y -> y.loosen(0), -1));
        }
        if (x.is(2) != 3 || x.fence(-1, 0) > 12) {
            calls.add(new Call("adopt()", y -> y.adopt(), -1));
        }
    }

    private static void steps(List<Call> calls, FencedStates x) {
        for (int n : with(-1, 0, 501)) {
            calls.add(new Call("step(" + n + ")", y -> y.step(n), -1));
        }
        if (x.is(2) > 2) {
            calls.add(new Call("step(1)", y -> y.step(1), -1));
            calls.add(new Call("step(500)", y -> y.step(500), -1));
        }
        if (x.about(1) == 0) {
            calls.add(new Call("undo()", y -> y.undo(), -1));
        }
    }

    /** Calls that only ask, some of them about what there is none of. */
    private static List<Call> asked() {
        List<Call> calls = new ArrayList<>();
        ask(calls, "foretold", y -> y.foretold(500) + y.foretold(1) + y.foretold(0));
        ask(calls, "till", y -> y.till());
        ask(calls, "quickest", y -> y.quickest());
        ask(calls, "bestMode", y -> y.bestMode());
        ask(calls, "mean", y -> y.mean());
        for (int what = 0; what < 4; what++) {
            int w = what;
            ask(calls, "spare(" + w + ")", y -> y.spare(w));
            ask(calls, "fewest(" + w + ")", y -> y.fewest(w));
            ask(calls, "chosen(" + w + ")", y -> y.chosen(w));
            ask(calls, "judged(" + w + ")", y -> y.judged(w));
            ask(calls, "witness(" + w + ")", y -> y.witness(w));
            ask(calls, "inside(" + w + ")", y -> y.inside(w));
            ask(calls, "about, is and fault(" + w + ")", y -> y.about(w) + y.is(w) + y.fault(w));
        }
        for (int n = -2; n < 5; n++) {
            int k = n;
            ask(calls, "of STATE " + k, y -> y.widened(k, 1) + y.widened(k, 2) + y.ahead(k, 1) + y.ahead(k, 0)
                + y.distance(k) + y.distanceBy(k, 3) + y.far(k) + y.leads(k, 0) + y.leads(k, -1) + y.successor(k, k)
                + (y.of(k, k) || y.of(k, -1) || y.within(k, k) ? 1 : 0));
            ask(calls, "of FRAME " + k, y -> y.wide(k) + y.bad(k) + y.weight(k) + y.slack(k) + y.cube(k, -1, 0)
                + y.cube(k, 0, 0) + (y.holds(k, k, k) || y.holds(1, 1, k) ? 1 : 0));
            ask(calls, "of number " + k, y -> y.doomed(k) + y.reach(k) + y.sought(k) + y.order(k) + y.activity(k)
                + y.obligation(k, 0) + y.trace(k, 1) + y.trace(k, 0) + y.fence(k, 0) + y.shortest(k, 1)
                + y.claimed(k, 1));
        }
        ask(calls, "detour and nearest", y -> y.detour() + y.nearest());
        return calls;
    }

    private static void ask(List<Call> calls, String name, ToLongFunction<FencedStates> call) {
        calls.add(new Call(name, call, Long.MIN_VALUE));
    }

    /** A text at FAULT leaves all as it is but the tape and the latest FAULT. */
    private static void textAtFault() {
        for (Map.Entry<String, Consumer<FencedStates>> at : places().entrySet()) {
            if (Look.made(at.getValue()).about(0) == 4) {
                continue;
            }
            String[] texts = {"bad", "bad ?;", "letters 6;init x;", "letters 1;bad !!!!!!!!!!!a;", "bad a;bad a;init a;init"};
            for (String text : texts) {
                Consumer<FencedStates> wrong = at.getValue().andThen(x -> {
                    x.end(0);
                    due.is("text", Due.read(x, text), -1);
                });
                Look.same(due, at.getKey() + " behind " + text, at.getValue(), wrong, false);
                FencedStates x = Look.made(wrong);
                FencedStates y = Look.made(at.getValue());
                due.is("the tape", x.about(3), 0);
                for (int what : new int[] {0, 1, 2, 4}) {
                    due.is("about(" + what + ")", x.about(what), y.about(what));
                }
                due.is("the next one is read anew", Due.read(x, "letters 2;"), y.about(0));
                due.is("load", x.load(y.about(0)), 2);
                due.is("AIMS", x.is(4), 1);
                due.is("bad(1)", x.bad(1), 0);
                due.is("wide(0)", x.wide(0), 1);
            }
        }
    }
}

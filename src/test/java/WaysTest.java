/** Promises 31 to 39: DISTANCE, FAR and THE SHORTEST. */
final class WaysTest {
    private static final Due due = new Due();

    public static void main(String[] args) {
        round();
        counter();
        never();
        due.end();
    }

    private static void row(String name, java.util.function.IntUnaryOperator call, int from, int... want) {
        for (int i = 0; i < want.length; i++) {
            due.is(name + "(" + (from + i) + ")", call.applyAsInt(from + i), want[i]);
        }
    }

    private static void round() {
        FencedStates x = Due.of(StepsTest.ROUND);
        row("distance", x::distance, -1, -1, 1, 1, -1, 0, -1);
        row("distanceBy 1", s -> x.distanceBy(s, 1), -1, -1, 1, 2, -1, 0, -1);
        row("distanceBy 2", s -> x.distanceBy(s, 2), 0, -1, 1, -1, 0);
        row("distanceBy 3", s -> x.distanceBy(s, 3), 0, 1, 1, -1, 0);
        row("distanceBy 15", s -> x.distanceBy(s, 15), 0, 1, 1, -1, 0);
        row("inputs", n -> x.distanceBy(1, n), -1, -1, -1, 2, 1);
        due.is("distanceBy(1, 16)", x.distanceBy(1, 16), -1);
        row("slack", x::slack, -1, -1, 0, 1, -1);
        due.is("nearest", x.nearest(), -1);
        due.is("shortest(-1, 0)", x.shortest(-1, 0), 0);
        due.is("shortest(0, 0)", x.shortest(0, 0), -2);
        due.is("detour", x.detour(), -1);
        row("far", x::far, -1, -1, -1, -1, 0, -1, -1);
        x.step(500);
        due.is("detour in PHASE 3", x.detour(), -1);
        row("slack", x::slack, 0, 0, 0, 0, -1);
        x.aim(1);
        row("far", x::far, -1, -1, 1, 0, -1, 1, -1);
        row("doomed", x::doomed, -1, -1, 1, 3, 3);
        due.is("doomed", x.doomed(Integer.MAX_VALUE), 3);
        due.is("doomed", x.doomed(Integer.MIN_VALUE), -1);
        row("reach", x::reach, -1, -1, 1, 3, 3);
        due.is("reach", x.reach(Integer.MAX_VALUE), 3);
        due.is("nearest", x.nearest(), 1);
        x.step(500);
        due.is("detour", x.detour(), 1);
        due.is("shortest(-1, 9)", x.shortest(-1, 9), 2);
        due.is("shortest(0, 0)", x.shortest(0, 0), 3);
        due.is("shortest(0, 1)", x.shortest(0, 1), 1);
        due.is("shortest(1, 0)", x.shortest(1, 0), 1);
        due.is("shortest(1, 1)", x.shortest(1, 1), -1);
        due.is("shortest(2, 0)", x.shortest(2, 0), -2);
        due.is("shortest(0, 2)", x.shortest(0, 2), -2);
        due.is("shortest(0, -1)", x.shortest(0, -1), -2);
        due.is("shortest(-2, 0)", x.shortest(-2, 0), -2);
    }

    /** Six LETTERS that count up: the longest way there is. */
    private static void counter() {
        FencedStates x = Due.of("letters 6;next a !a;next b a^b;next c a&b^c;next d a&b&c^d;"
            + "next e a&b&c&d^e;next f a&b&c&d&e^f;bad a&b&c&d&e&f;");
        for (int state = 0; state < 64; state++) {
            due.is("distance", x.distance(state), state);
            due.is("distanceBy", x.distanceBy(state, 4), state);
            due.is("far", x.far(state), 63 - state);
            due.is("reach", x.reach(state), state + 1);
            due.is("doomed", x.doomed(state), state + 1);
            due.is("shortest", x.shortest(state, 0), state);
        }
        due.is("nearest", x.nearest(), 63);
        due.is("shortest(-1, 0)", x.shortest(-1, 0), 64);
        for (int n = 0; n < 20; n++) {
            x.step(500);
        }
        due.is("is(2)", x.is(2), 4);
        due.is("trace(-1, 0)", x.trace(-1, 0), 64);
        due.is("trace(63, 0)", x.trace(63, 0), 63);
        due.is("detour", x.detour(), 0);
        due.is("slack(40)", x.slack(40), x.wide(40) - 41);
    }

    private static void never() {
        // the lowest of STATES of INIT that are least FAR, and of two ways the lower
        FencedStates x = Due.of("init a|b|c;bad a&b&c;next a x|a;next b y|b;next c x|y|c;");
        due.is("shortest(0, 0)", x.shortest(0, 0), 7);
        FencedStates y = Due.of("init a&!b|b&!a;bad c;next c a&!b&x|b&y;");
        due.is("shortest(-1, 0)", y.shortest(-1, 0), 1);
        due.is("shortest(0, 0)", y.shortest(0, 0), 5);
        FencedStates z = Due.of("init !c&(a^b);bad c;next c x;next b b^y;");
        due.is("shortest(-1, 0)", z.shortest(-1, 0), 2);
        due.is("shortest(0, 0)", z.shortest(0, 0), 1);
        due.is("shortest(0, 1)", z.shortest(0, 1), 1);
        due.is("shortest(1, 0)", z.shortest(1, 0), 5);
        FencedStates none = Due.of("init 0;bad 1;");
        due.is("nearest", none.nearest(), -1);
        due.is("shortest(-1, 0)", none.shortest(-1, 0), 0);
        due.is("reach(9)", none.reach(9), 0);
        due.is("doomed(0)", none.doomed(0), 8);
        due.is("distance(0)", none.distance(0), -1);
    }
}

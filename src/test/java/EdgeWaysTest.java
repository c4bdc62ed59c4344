import java.util.function.IntUnaryOperator;

/** Each sentence on DISTANCE, FAR and THE SHORTEST (promises 31 to 39), at its edges. */
final class EdgeWaysTest {
    /** Six LETTERS that count up by any INPUT, from 0 to 63, which is bad, and to 0 again. */
    private static final String COUNTER = ForetoldTest.COUNTER;
    /** 4 goes to 5 by x, 5 to 6 by y, 6 to 7 by x and y together, each stays else; 7 is bad, 0 to 3 stay. */
    private static final String BY_INPUTS = "init c&!a&!b;bad a&b&c;"
        + "next a a^c&(!b&!a&x|a&!b&y|b&!a&x&y);next b b^c&a&!b&y;";

    private static final Due due = new Due();

    public static void main(String[] args) {
        distance();
        distanceBy();
        far();
        doomed();
        shortest();
        shortestOfLike();
        detour();
        nearest();
        reach();
        slack();
        due.end();
    }

    private static void outside(String name, IntUnaryOperator call, int refused) {
        for (int n : Due.OUTSIDE) {
            due.is(name + "(" + n + ")", call.applyAsInt(n), refused);
        }
    }

    private static void distance() {
        due.sentence(0, "DISTANCE of a STATE: how many times one has to go to a SUCCESSOR, at least, from INIT on.");
        FencedStates x = Due.of(COUNTER);
        for (int s = 0; s < 64; s++) {
            due.is("distance(" + s + ")", x.distance(s), s);
        }
        FencedStates many = Due.of("letters 6;init a|f;next a !a;");
        due.is("of INIT", many.distance(1), 0);
        due.is("of INIT", many.distance(63), 0);
        due.is("led to", many.distance(0), 1);
        due.sentence(31, "DISTANCE.");
        due.is("distance(31)", many.distance(31), 0);
        due.sentence(31, "NONE: it is never come to, and for others.");
        due.is("distance(30)", many.distance(30), 1);
        FencedStates stay = Due.of("letters 6;");
        due.is("distance(0)", stay.distance(0), 0);
        due.is("distance(1)", stay.distance(1), -1);
        due.is("distance(63)", stay.distance(63), -1);
        due.is("distance(64)", stay.distance(64), -1);
        due.is("distance(-1)", stay.distance(-1), -1);
        outside("distance", x::distance, -1);
        FencedStates none = Due.of("letters 2;init 0;next a !a;");
        for (int s = 0; s < 4; s++) {
            due.is("without INIT", none.distance(s), -1);
        }
    }

    private static void distanceBy() {
        due.sentence(32, "DISTANCE by some INPUTS alone (bits, 1 .. 15).");
        FencedStates x = Due.of(BY_INPUTS);
        for (int inputs = 1; inputs <= 15; inputs++) {
            // bit 0 no INPUT bit, bit 1 x alone, bit 2 y alone, bit 3 both
            boolean one = (inputs & 10) != 0;
            boolean two = one && (inputs & 12) != 0;
            boolean three = two && (inputs & 8) != 0;
            due.is("distanceBy(4, " + inputs + ")", x.distanceBy(4, inputs), 0);
            due.is("distanceBy(5, " + inputs + ")", x.distanceBy(5, inputs), one ? 1 : -1);
            due.is("distanceBy(6, " + inputs + ")", x.distanceBy(6, inputs), two ? 2 : -1);
            due.is("distanceBy(7, " + inputs + ")", x.distanceBy(7, inputs), three ? 3 : -1);
            due.is("distanceBy(0, " + inputs + ")", x.distanceBy(0, inputs), -1);
        }
        due.sentence(32, "NONE: it is never come to so, and for others.");
        for (int inputs : new int[] {0, -1, 16, 17, 31, 32}) {
            due.is("distanceBy(4, " + inputs + ")", x.distanceBy(4, inputs), -1);
        }
        outside("distanceBy(4, ..)", n -> x.distanceBy(4, n), -1);
        outside("distanceBy(.., 15)", n -> x.distanceBy(n, 15), -1);
        due.is("distanceBy(8, 15)", x.distanceBy(8, 15), -1);
        due.is("distanceBy(-1, 15)", x.distanceBy(-1, 15), -1);
        FencedStates y = Due.of(COUNTER);
        for (int inputs : new int[] {1, 2, 4, 8, 15}) {
            due.is("distanceBy(63, " + inputs + ")", y.distanceBy(63, inputs), 63);
        }
    }

    private static void far() {
        due.sentence(0, "FAR is a STATE from THE AIM: how many times one has to go to a SUCCESSOR, at least, to come"
            + " to a STATE of it.");
        FencedStates x = Due.of(COUNTER);
        for (int s = 0; s < 64; s++) {
            due.is("far(" + s + ")", x.far(s), 63 - s);
        }
        due.sentence(33, "FAR.");
        due.is("far(63)", x.far(63), 0);
        due.sentence(33, "NONE: it never comes there, and for others.");
        due.is("far(64)", x.far(64), -1);
        due.is("far(-1)", x.far(-1), -1);
        outside("far", x::far, -1);
        FencedStates y = Due.of("letters 2;bad a&b;bad 0;bad 1;next a a|b;");
        int[][] want = {{-1, -1, 1, 0}, {-1, -1, -1, -1}, {0, 0, 0, 0}};
        for (int aim = 0; aim < 3; aim++) {
            y.aim(aim);
            for (int s = 0; s < 4; s++) {
                due.is("far(" + s + ") of AIM " + aim, y.far(s), want[aim][s]);
            }
        }
    }

    private static void doomed() {
        due.sentence(34, "How many STATES are FAR by n at most.");
        FencedStates x = Due.of(COUNTER);
        for (int n = 0; n < 70; n++) {
            due.is("doomed(" + n + ")", x.doomed(n), Math.min(64, n + 1));
        }
        due.is("doomed of the largest", x.doomed(Integer.MAX_VALUE), 64);
        for (int letters = 1; letters <= 6; letters++) {
            FencedStates y = Due.of("letters " + letters + ";bad !a;bad 1;");
            due.is("doomed(0)", y.doomed(0), 1 << letters - 1);
            due.is("doomed(1)", y.doomed(1), 1 << letters - 1);
            y.aim(1);
            due.is("doomed(0) of all", y.doomed(0), 1 << letters);
        }
        due.sentence(34, "NONE for others (n below 0).");
        due.is("doomed(-1)", x.doomed(-1), -1);
        due.is("doomed(-2)", x.doomed(-2), -1);
        due.is("doomed of the smallest", x.doomed(Integer.MIN_VALUE), -1);
        FencedStates none = Due.of("");
        due.is("doomed(0)", none.doomed(0), 0);
        due.is("doomed(9)", none.doomed(9), 0);
        due.is("doomed(-1)", none.doomed(-1), -1);
    }

    private static void shortest() {
        due.sentence(35, "THE SHORTEST: how many STATES (i NONE; 0: there is none); the i-th: 0 the STATE, 1 the"
            + " lowest INPUT by which the next one is its SUCCESSOR (NONE at the last).");
        FencedStates x = Due.of(COUNTER);
        due.is("shortest(NONE, 0)", x.shortest(-1, 0), 64);
        for (int i = 0; i < 64; i++) {
            due.is("shortest(" + i + ", 0)", x.shortest(i, 0), i);
            due.is("shortest(" + i + ", 1)", x.shortest(i, 1), i == 63 ? -1 : 0);
        }
        due.sentence(35, "-2 if there is none such, and for others.");
        due.is("shortest(64, 0)", x.shortest(64, 0), -2);
        due.is("shortest(64, 1)", x.shortest(64, 1), -2);
        due.is("shortest(0, 2)", x.shortest(0, 2), -2);
        due.is("shortest(0, -1)", x.shortest(0, -1), -2);
        due.is("shortest(63, 2)", x.shortest(63, 2), -2);
        outside("shortest(.., 0)", n -> x.shortest(n, 0), -2);
        outside("shortest(.., 1)", n -> x.shortest(n, 1), -2);
        outside("shortest(0, ..)", n -> x.shortest(0, n), -2);
        due.sentence(35, "0: there is none");
        for (String text : new String[] {"", "bad a;", "init 0;bad 1;"}) {
            FencedStates y = Due.of(text);
            due.is("shortest(NONE, 0)", y.shortest(-1, 0), 0);
            due.is("shortest(0, 0)", y.shortest(0, 0), -2);
            due.is("shortest(0, 1)", y.shortest(0, 1), -2);
        }
        FencedStates at = Due.of("bad !a;");
        due.is("INIT is of THE AIM", at.shortest(-1, 0), 1);
        due.is("shortest(0, 0)", at.shortest(0, 0), 0);
        due.is("shortest(0, 1)", at.shortest(0, 1), -1);
        due.is("shortest(1, 0)", at.shortest(1, 0), -2);
        FencedStates by = Due.of(BY_INPUTS);
        int[] input = {1, 2, 3, -1};
        for (int i = 0; i < 4; i++) {
            due.is("shortest(" + i + ", 0)", by.shortest(i, 0), 4 + i);
            due.is("shortest(" + i + ", 1)", by.shortest(i, 1), input[i]);
        }
    }

    private static void shortestOfLike() {
        due.sentence(0, "THE SHORTEST: the lowest of those STATES of INIT that are least FAR, then the lowest of its"
            + " SUCCESSORS that are one less FAR, and so on to THE AIM.");
        // INIT is 1, 2 and 4: 1 goes to 3 and stays there, 2 and 4 go to 5 or 6, these to 7; 0 goes to 0
        FencedStates x = Due.of("init a&!b&!c|b&!a&!c|c&!a&!b;bad a&b&c;next a b&a|a&!c|b&!c&x|c&!a&!b&x|c&a|c&b;"
            + "next b a|b&c|b&!x|c&!x;next c c|b&!a;");
        due.is("far(1)", x.far(1), -1);
        due.is("far(2)", x.far(2), 2);
        due.is("far(4)", x.far(4), 2);
        int[] states = {2, 5, 7};
        due.is("shortest(NONE, 0)", x.shortest(-1, 0), 3);
        for (int i = 0; i < 3; i++) {
            due.is("shortest(" + i + ", 0)", x.shortest(i, 0), states[i]);
        }
        due.is("the lowest INPUT to 5", x.shortest(0, 1), 1);
        due.is("the lowest INPUT to 7", x.shortest(1, 1), 0);
        // 0 is of INIT too, but 3 FAR, 6 is 1 FAR
        FencedStates y = Due.of("init !a&!b&!c|b&c&!a;bad a&b&c;next a a|b&c;next b b|!a&!c&x;next c c|b;");
        due.is("far(0)", y.far(0), 3);
        due.is("far(6)", y.far(6), 1);
        due.is("shortest(0, 0)", y.shortest(0, 0), 6);
        due.is("shortest(NONE, 0)", y.shortest(-1, 0), 2);
    }

    private static void detour() {
        due.sentence(36, "How many STATES THE TRACE has more than THE SHORTEST.");
        FencedStates x = Due.of(EdgeFramesTest.ROUND);
        x.step(500);
        due.is("detour", x.detour(), 0);
        FencedStates y = Due.of(StepsTest.ROUND);
        y.aim(1);
        y.step(500);
        due.is("trace(NONE, 0)", y.trace(-1, 0) - y.shortest(-1, 0), y.detour());
        due.sentence(36, "NONE but in PHASE 4.");
        FencedStates z = Due.of(EdgeFramesTest.ROUND);
        for (int n = 0; n < 16; n++) {
            due.is("detour in PHASE " + z.is(2), z.detour(), -1);
            z.step(1);
        }
        due.is("detour", z.detour(), 0);
        z.aim(0);
        due.is("detour", z.detour(), -1);
        FencedStates safe = Due.of(StepsTest.SAFE);
        safe.step(500);
        due.is("detour in PHASE 3", safe.detour(), -1);
    }

    private static void nearest() {
        due.sentence(37, "The least DISTANCE of a STATE of THE AIM.");
        FencedStates x = Due.of(COUNTER);
        due.is("nearest", x.nearest(), 63);
        FencedStates y = Due.of(COUNTER + "bad c&!a&!b&!d&!e&!f|a&b&c&d&e&f;bad 1;bad 0;");
        y.aim(1);
        due.is("nearest of two", y.nearest(), 4);
        y.aim(2);
        due.is("nearest of all", y.nearest(), 0);
        due.sentence(37, "NONE: none is ever come to.");
        y.aim(3);
        due.is("nearest of none", y.nearest(), -1);
        due.is("nearest", Due.of("bad a;").nearest(), -1);
        due.is("nearest", Due.of("init 0;bad 1;").nearest(), -1);
        due.is("nearest", new FencedStates().nearest(), -1);
    }

    private static void reach() {
        due.sentence(38, "How many STATES have a DISTANCE of n at most.");
        FencedStates x = Due.of(COUNTER);
        for (int n = 0; n < 70; n++) {
            due.is("reach(" + n + ")", x.reach(n), Math.min(64, n + 1));
        }
        due.is("reach of the largest", x.reach(Integer.MAX_VALUE), 64);
        due.sentence(38, "NONE for others (n below 0).");
        due.is("reach(-1)", x.reach(-1), -1);
        due.is("reach(-2)", x.reach(-2), -1);
        due.is("reach of the smallest", x.reach(Integer.MIN_VALUE), -1);
        FencedStates none = Due.of("init 0;");
        due.is("reach(0)", none.reach(0), 0);
        due.is("reach(9)", none.reach(9), 0);
        FencedStates all = Due.of("letters 6;init 1;");
        due.is("reach(0)", all.reach(0), 64);
    }

    private static void slack() {
        due.sentence(39, "How many STATES WITHIN a FRAME are not come to by as many SUCCESSORS as its number, or"
            + " fewer.");
        FencedStates x = Due.of(COUNTER);
        due.is("slack(0)", x.slack(0), 0);
        due.is("slack(1)", x.slack(1), 62);
        for (int n = 0; n < 4; n++) {
            x.step(500);
        }
        int top = x.is(1);
        due.is("TOP is more than 9", top > 9, true);
        for (int frame = 0; frame <= top; frame++) {
            int want = 0;
            for (int s = frame + 1; s < 64 && frame < 6; s++) {
                want += x.within(s, frame) ? 1 : 0;
            }
            if (frame < 6) {
                due.is("slack(" + frame + ")", x.slack(frame), want);
            }
            due.is("slack(" + frame + ")", x.slack(frame), x.wide(frame) - frame - 1);
        }
        due.sentence(39, "NONE for others.");
        due.is("slack(-1)", x.slack(-1), -1);
        due.is("slack(" + (top + 1) + ")", x.slack(top + 1), -1);
        outside("slack", x::slack, -1);
        FencedStates y = Due.of("letters 2;next a 1;");
        due.is("wide(1)", y.wide(1), 4);
        due.is("0 and 1 are come to by 1", y.slack(1), 2);
    }
}

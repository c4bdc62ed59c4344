/** Promises 8 to 13 and 17 to 30: STEPS and what is told, FRAMES, CUBES, OBLIGATIONS, THE TRACE, THE FENCE. */
final class StepsTest {
    /** 0 and 2 stay, 1 goes to 3, which stays: 3 is bad and never come to. */
    static final String SAFE = "letters 2;bad a&b;next b a|b;";
    /** From 3 to 0 or, by x, to 1; from 0 to 1; 1 and 2 stay. */
    static final String ROUND = "letters 2;init a&b;bad !a&b;bad a&!b;next a !b|a&x;next b b&!a;";

    private static final Due due = new Due();

    public static void main(String[] args) {
        stepByStep();
        traceAndAim();
        manySought();
        steps();
        aims();
        bar();
        widenedAndOrder();
        activities();
        undo();
        due.end();
    }

    private static void seen(FencedStates x, int[] want) {
        int[] what = {1, 2, 3, 6, 7, 8, 9, 10, 11};
        for (int i = 0; i < want.length; i++) {
            due.is("is(" + what[i] + ") behind STEP " + x.is(8), x.is(what[i]), want[i]);
        }
    }

    private static void stepByStep() {
        FencedStates x = Due.of(SAFE);
        // TOP, PHASE, AT, OBLIGATIONS, NUMBER, STEPS, ASKED, BARRED, MOVED
        int[][] want = {
            {1, 1, -1, 1, 1, 1, 0, 0, 0},
            {1, 1, -1, 0, 1, 2, 2, 1, 0},
            {1, 0, -1, 0, 1, 3, 2, 1, 0},
            {2, 2, 1, 0, 1, 4, 2, 1, 0},
            {2, 0, -1, 0, 1, 5, 3, 1, 0},
            {2, 1, -1, 1, 2, 6, 3, 1, 0},
            {2, 1, -1, 2, 3, 7, 4, 1, 0},
            {2, 1, -1, 1, 3, 8, 7, 2, 0},
            {2, 1, -1, 0, 3, 9, 7, 2, 0},
            {2, 0, -1, 0, 3, 10, 7, 2, 0},
            {3, 2, 1, 0, 3, 11, 7, 2, 0},
            {3, 3, -1, 0, 3, 12, 8, 2, 1}};
        due.is("till", x.till(), 12);
        for (int n = 0; n < want.length; n++) {
            due.is("step(1)", x.step(1), 1);
            seen(x, want[n]);
            if (n == 6) {
                obligations(x);
            }
            if (n == 7) {
                frames(x);
            }
        }
        due.is("step(1)", x.step(1), -1);
        due.is("fence(-1, 0)", x.fence(-1, 0), 2);
        due.is("fence(-1, 9)", x.fence(-1, 9), 2);
        due.is("fence(0, 0)", x.fence(0, 0), 1);
        due.is("fence(0, 1)", x.fence(0, 1), 1);
        due.is("fence(1, 0)", x.fence(1, 0), 2);
        due.is("fence(1, 1)", x.fence(1, 1), 2);
        due.is("fence(2, 0)", x.fence(2, 0), -2);
        due.is("fence(-2, 0)", x.fence(-2, 0), -2);
        due.is("fence(0, 2)", x.fence(0, 2), -2);
        due.is("fence(0, -1)", x.fence(0, -1), -2);
        due.is("trace(-1, 0)", x.trace(-1, 0), 0);
        due.is("trace(0, 0)", x.trace(0, 0), -2);
    }

    private static void obligations(FencedStates x) {
        int[][] want = {{1, 1, 3, 2}, {3, 2, 2, 0}};
        due.is("obligation(-1, 7)", x.obligation(-1, 7), 2);
        for (int i = 0; i < 2; i++) {
            for (int what = 0; what < 4; what++) {
                due.is("obligation(" + i + ", " + what + ")", x.obligation(i, what), want[i][what]);
            }
        }
        due.is("obligation(2, 0)", x.obligation(2, 0), -2);
        due.is("obligation(-2, 0)", x.obligation(-2, 0), -2);
        due.is("obligation(0, 4)", x.obligation(0, 4), -2);
        due.is("obligation(0, -1)", x.obligation(0, -1), -2);
        due.is("fence(-1, 0)", x.fence(-1, 0), 0);
    }

    /** FRAME 1 has the CUBE b, FRAME 2 the CUBE a, which was put ahead of where it was BARRED. */
    private static void frames(FencedStates x) {
        due.is("cube(1, -1, 0)", x.cube(1, -1, 0), 1);
        due.is("cube(1, 0, 0)", x.cube(1, 0, 0), 2);
        due.is("cube(1, 0, 1)", x.cube(1, 0, 1), 2);
        due.is("cube(2, 0, 0)", x.cube(2, 0, 0), 1);
        due.is("cube(2, 0, 1)", x.cube(2, 0, 1), 1);
        due.is("cube(2, 1, 0)", x.cube(2, 1, 0), -2);
        due.is("cube(2, -2, 0)", x.cube(2, -2, 0), -2);
        due.is("cube(2, 0, 2)", x.cube(2, 0, 2), -2);
        due.is("cube(0, -1, 0)", x.cube(0, -1, 0), -2);
        due.is("cube(3, -1, 0)", x.cube(3, -1, 0), -2);
        due.is("wide(0)", x.wide(0), 1);
        due.is("wide(1)", x.wide(1), 1);
        due.is("wide(2)", x.wide(2), 2);
        due.is("wide(3)", x.wide(3), -1);
        due.is("wide(-1)", x.wide(-1), -1);
        due.is("within(2, 2)", x.within(2, 2), true);
        due.is("within(2, 1)", x.within(2, 1), false);
        due.is("within(1, 2)", x.within(1, 2), false);
        due.is("within(0, 1)", x.within(0, 1), true);
        due.is("within(0, 3)", x.within(0, 3), false);
        due.is("within(0, -1)", x.within(0, -1), false);
        due.is("within(4, 2)", x.within(4, 2), false);
        due.is("within(-1, 2)", x.within(-1, 2), false);
        due.is("bad(2)", x.bad(2), 0);
        due.is("bad(3)", x.bad(3), -1);
        due.is("bad(-1)", x.bad(-1), -1);
        due.is("weight(1)", x.weight(1), 1);
        due.is("weight(2)", x.weight(2), 1);
        due.is("weight(0)", x.weight(0), -1);
        due.is("weight(3)", x.weight(3), -1);
        due.is("holds(2, 2, 1)", x.holds(2, 2, 1), true);
        due.is("holds(2, 0, 2)", x.holds(2, 0, 2), true);
        due.is("holds(0, 0, 2)", x.holds(0, 0, 2), true);
        due.is("holds(3, 3, 3)", x.holds(3, 3, 3), false);
        due.is("holds(4, 4, 1)", x.holds(4, 4, 1), false);
        due.is("holds(-1, 0, 1)", x.holds(-1, 0, 1), false);
        due.is("it isn't counted", x.is(9), 7);
    }

    private static void traceAndAim() {
        FencedStates x = Due.of(ROUND);
        due.is("bad(0)", x.bad(0), 0);
        due.is("bad(1)", x.bad(1), 1);
        due.is("ahead(1, 1)", x.ahead(1, 1), 0);
        due.is("ahead(1, 0)", x.ahead(1, 0), 3);
        due.is("ahead(2, 1)", x.ahead(2, 1), -1);
        due.is("ahead(3, 1)", x.ahead(3, 1), -1);
        due.is("ahead(1, 2)", x.ahead(1, 2), -1);
        due.is("ahead(1, -1)", x.ahead(1, -1), -1);
        due.is("ahead(4, 1)", x.ahead(4, 1), -1);
        due.is("ahead(-1, 1)", x.ahead(-1, 1), -1);
        due.is("holds(1, 0, 0)", x.holds(1, 0, 0), false);
        due.is("holds(3, 2, 1)", x.holds(3, 2, 1), true);
        due.is("step(500)", x.step(500), 5);
        due.is("is(2)", x.is(2), 3);
        due.is("fence(0, 0)", x.fence(0, 0), 3);
        due.is("fence(0, 1)", x.fence(0, 1), 2);
        due.is("aim(1)", x.aim(1), true);
        due.is("is(1)", x.is(1), 2);
        due.is("fence(-1, 0)", x.fence(-1, 0), 0);
        due.is("step(500)", x.step(500), 4);
        due.is("is(2)", x.is(2), 4);
        int[][] trace = {{3, 0}, {0, 0}, {1, -1}};
        due.is("trace(-1, 5)", x.trace(-1, 5), 3);
        for (int i = 0; i < 3; i++) {
            due.is("trace state " + i, x.trace(i, 0), trace[i][0]);
            due.is("trace input " + i, x.trace(i, 1), trace[i][1]);
        }
        due.is("trace(3, 0)", x.trace(3, 0), -2);
        due.is("trace(-2, 0)", x.trace(-2, 0), -2);
        due.is("trace(0, 2)", x.trace(0, 2), -2);
        due.is("trace(0, -1)", x.trace(0, -1), -2);
        due.is("is(6)", x.is(6), 3);
        due.is("aim(1) again", x.aim(1), true);
        due.is("trace(-1, 0)", x.trace(-1, 0), 0);
        due.is("is(6)", x.is(6), 0);
    }

    private static void manySought() {
        FencedStates x = Due.of("letters 6;init 0;bad a;");
        due.is("sought(-1)", x.sought(-1), 8);
        for (int i = 0; i < 8; i++) {
            due.is("sought(" + i + ")", x.sought(i), 2 * i + 1);
        }
        due.is("sought(8)", x.sought(8), -1);
        due.is("sought(-2)", x.sought(-2), -1);
        due.is("bad(1)", x.bad(1), 32);
        x.step(1);
        due.is("obligations", x.is(6), 8);
        for (int i = 0; i < 8; i++) {
            due.is("state", x.obligation(i, 0), 2 * i + 1);
            due.is("level", x.obligation(i, 1), 1);
            due.is("number", x.obligation(i, 2), i + 1);
            due.is("leads to none", x.obligation(i, 3), 0);
        }
        // without INIT all LETTERS are dropped
        x.step(1);
        due.is("cube(1, 0, 0)", x.cube(1, 0, 0), 0);
        due.is("wide(1)", x.wide(1), 0);
        due.is("weight(1)", x.weight(1), 0);
        due.is("is(9)", x.is(9), 7);
        due.is("step(500)", x.step(500), 10);
        due.is("is(2)", x.is(2), 3);
        due.is("inside(1)", x.inside(1), 0);
        FencedStates y = Due.of("bad !a&!b;");
        due.is("sought(-1)", y.sought(-1), 2);
        due.is("sought(0)", y.sought(0), 0);
        due.is("sought(1)", y.sought(1), 4);
        due.is("INIT is bad", y.step(9), 2);
        due.is("is(2)", y.is(2), 4);
        due.is("trace(-1, 0)", y.trace(-1, 0), 1);
        due.is("trace(0, 1)", y.trace(0, 1), -1);
        due.is("is(9)", y.is(9), 0);
    }

    private static void steps() {
        FencedStates x = Due.of(SAFE);
        int[] wrong = {0, -1, 501, Integer.MAX_VALUE, Integer.MIN_VALUE};
        for (int n : wrong) {
            due.is("step(" + n + ")", x.step(n), -1);
        }
        due.is("about(1)", x.about(1), 1);
        due.is("step(7)", x.step(7), 7);
        due.is("step(500)", x.step(500), 5);
        due.is("step(1)", x.step(1), -1);
        due.is("about(1)", x.about(1), 3);
    }

    private static void aims() {
        FencedStates x = Due.of("bad a;bad b;bad c;bad a&b&c;");
        due.is("aim(4)", x.aim(4), false);
        due.is("aim(-1)", x.aim(-1), false);
        due.is("step(9)", x.step(9), 8);
        due.is("is(9)", x.is(9), 4);
        due.is("aim(1)", x.aim(1), true);
        due.is("is(1)", x.is(1), 2);
        due.is("is(5)", x.is(5), 1);
        due.is("is(8)", x.is(8), 8);
        due.is("order(0)", x.order(0), 1);
        due.is("order(2)", x.order(2), 0);
        due.is("step(2)", x.step(2), 2);
        due.is("is(7)", x.is(7), 6);
        due.is("cube(2, 0, 0)", x.cube(2, 0, 0), 1);
        due.is("cube(2, 1, 0)", x.cube(2, 1, 0), 2);
        due.is("activity(1)", x.activity(1), Float.floatToIntBits(1.5f));
        due.is("activity(-1)", x.activity(-1), Float.floatToIntBits(2.25f));
        due.is("is(6)", x.is(6), 1);
        due.is("aim(1) as it is", x.aim(1), true);
        due.is("is(6)", x.is(6), 0);
        due.is("is(2)", x.is(2), 0);
        due.is("is(7)", x.is(7), 6);
        FencedStates y = Due.of("bad a;bad b;");
        y.step(7);
        due.is("PHASE 2", y.is(2), 2);
        due.is("TOP 2", y.is(1), 2);
        y.aim(0);
        due.is("TOP is the highest that has CUBES", y.is(1), 1);
    }

    private static void bar() {
        FencedStates x = Due.of("bad a;");
        due.is("bar(7, 7, 1)", x.bar(7, 7, 1), 1);
        due.is("bar(7, 5, 1)", x.bar(7, 5, 1), 2);
        due.is("bar(6, 6, 1)", x.bar(6, 6, 1), 2);
        int[][] want = {{7, 5}, {6, 6}};
        for (int i = 0; i < 2; i++) {
            due.is("mask", x.cube(1, i, 0), want[i][0]);
            due.is("bits", x.cube(1, i, 1), want[i][1]);
        }
        due.is("weight(1)", x.weight(1), 5);
        due.is("wide(1)", x.wide(1), 5);
        due.is("within(5, 1)", x.within(5, 1), false);
        due.is("bar(7, 7, 1) in another", x.bar(7, 7, 1), 3);
        due.is("the same again", x.bar(7, 7, 1), 3);
        due.is("about(1)", x.about(1), 6);
        int[][] wrong = {{1, 2, 1}, {8, 8, 1}, {-1, 0, 1}, {1, 1, 0}, {1, 1, 2}, {1, 1, -1}, {2, 0, 1}, {0, 0, 1},
            {Integer.MIN_VALUE, 0, 1}, {1, 1, Integer.MAX_VALUE}};
        for (int[] w : wrong) {
            due.is("bar(" + w[0] + ", " + w[1] + ", " + w[2] + ")", x.bar(w[0], w[1], w[2]), -1);
        }
        due.is("about(1)", x.about(1), 6);
        for (int what = 8; what < 12; what++) {
            due.is("nothing is counted", x.is(what), 0);
        }
        for (int letter = 0; letter < 3; letter++) {
            due.is("no ACTIVITY changes", x.activity(letter), 0);
        }
        due.is("activity(-1)", x.activity(-1), Float.floatToIntBits(1f));
        x.step(1);
        due.is("PHASE 1", x.is(2), 1);
        due.is("bar in PHASE 1", x.bar(1, 1, 1), 2);
        FencedStates y = Due.of(SAFE);
        y.step(4);
        due.is("PHASE 2", y.is(2), 2);
        due.is("bar in PHASE 2", y.bar(1, 1, 1), -1);
        y.step(1);
        due.is("3 does not HOLD AT FRAME 1", y.bar(3, 3, 2), -1);
        due.is("1 does", y.bar(3, 1, 2), 1);
        due.is("3 does then", y.bar(3, 3, 2), 2);
        due.is("b stays in FRAME 1", y.cube(1, 0, 0), 2);
        due.is("bar(1, 1, 2)", y.bar(1, 1, 2), 1);
    }

    private static void widenedAndOrder() {
        FencedStates x = Due.of(SAFE);
        due.is("widened(3, 1)", x.widened(3, 1), 2 * 64 + 2);
        due.is("widened(1, 1)", x.widened(1, 1), 64 + 1);
        due.is("widened(0, 1)", x.widened(0, 1), -1);
        due.is("widened(3, 0)", x.widened(3, 0), -1);
        due.is("widened(3, 2)", x.widened(3, 2), -1);
        due.is("widened(4, 1)", x.widened(4, 1), -1);
        due.is("widened(-1, 1)", x.widened(-1, 1), -1);
        due.is("is(9)", x.is(9), 0);
        x.step(5);
        due.is("3 has 1 ahead of it", x.widened(3, 2), -1);
        due.is("widened(1, 2)", x.widened(1, 2), 64 + 1);
        due.is("is(9)", x.is(9), 3);
        due.is("order(0)", x.order(0), 0);
        due.is("order(1)", x.order(1), 1);
        due.is("order(2)", x.order(2), -1);
        due.is("order(-1)", x.order(-1), -1);
        due.is("mode(2)", x.mode(2), true);
        due.is("order(0)", x.order(0), 1);
        due.is("order(1)", x.order(1), 0);
        due.is("mode(1)", x.mode(1), true);
        due.is("order(0)", x.order(0), 0);
        due.is("mode(-1)", x.mode(-1), false);
        due.is("mode(3)", x.mode(3), false);
        due.is("about(4)", x.about(4), 1);
        FencedStates y = new FencedStates();
        y.mode(2);
        for (int i = 0; i < 3; i++) {
            due.is("of like ones the lower", y.order(i), i);
        }
    }

    /** ACTIVITIES worked out beside the program's, past the place where all are made small again. */
    private static void activities() {
        StringBuilder text = new StringBuilder("letters 4;");
        String carry = "1";
        for (char letter = 'a'; letter < 'e'; letter++) {
            text.append("next ").append(letter).append(' ').append(letter).append('^').append(carry).append(';');
            carry = carry.equals("1") ? "" + letter : carry + "&" + letter;
        }
        FencedStates x = Due.of(text + "bad a&b&c&d;");
        float[] values = new float[4];
        float bump = 1f;
        boolean lowered = false;
        for (int n = 0; n < 100; n++) {
            int wide = x.widened(x.obligation(0, 0), x.obligation(0, 1));
            int barred = x.is(10);
            x.step(1);
            if (x.is(10) == barred) {
                continue;
            }
            boolean high = false;
            for (int letter = 0; letter < 4; letter++) {
                if ((wide / 64 >> letter & 1) == 1) {
                    values[letter] += bump;
                }
                high |= values[letter] > 1000f;
            }
            bump *= 1.5f;
            if (high) {
                lowered = true;
                bump *= 0.001f;
                for (int letter = 0; letter < 4; letter++) {
                    values[letter] *= 0.001f;
                }
            }
            due.is("BUMP", x.activity(-1), Float.floatToIntBits(bump));
            for (int letter = 0; letter < 4; letter++) {
                due.is("ACTIVITY", x.activity(letter), Float.floatToIntBits(values[letter]));
            }
        }
        due.is("they were made small", lowered, true);
        due.is("activity(4)", x.activity(4), -2);
        due.is("activity(-2)", x.activity(-2), -2);
    }

    private static void undo() {
        FencedStates x = Due.of(SAFE);
        for (int n = 0; n < 25; n++) {
            x.mode(n % 3);
        }
        due.is("about(1)", x.about(1), 20);
        for (int n = 19; n >= 0; n--) {
            due.is("undo", x.undo(), n);
            due.is("MODE", x.about(4), (n + 4) % 3);
        }
        due.is("undo", x.undo(), -1);
        FencedStates y = Due.of(SAFE);
        y.step(7);
        y.step(5);
        y.adopt();
        y.claim(3, 3);
        y.unclaim(0);
        y.undo();
        due.is("unclaim is taken back", y.claimed(0, 0), 1);
        y.undo();
        due.is("claim is taken back", y.about(2), 2);
        y.undo();
        due.is("adopt is taken back", y.about(2), 0);
        y.feed(0, 0, 0, 0, 0);
        Due.read(y, "");
        y.undo();
        seen(y, new int[] {2, 1, -1, 2, 3, 7, 4, 1, 0});
        due.is("activity(-1)", y.activity(-1), Float.floatToIntBits(1.5f));
        due.is("STEPS gone together", y.undo(), 1);
        due.is("is(8)", y.is(8), 0);
        due.is("cube(1, -1, 0)", y.cube(1, -1, 0), 0);
        due.is("load is taken back", y.undo(), 0);
        due.is("is(0)", y.is(0), 3);
        due.is("undo", y.undo(), -1);
        due.is("TEXTS stay", y.load(0), 2);
    }
}

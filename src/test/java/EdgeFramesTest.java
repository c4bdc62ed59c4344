/** Each sentence on FRAMES, CUBES and OBLIGATIONS as calls show them (promises 9 to 11, 17 to 30), at its edges. */
final class EdgeFramesTest {
    /** From 0 to 1, to 2, to 3, which is bad, and to 0 again: UNSAFE in 16 STEPS. */
    static final String ROUND = "letters 2;next a !a;next b a^b;bad a&b;";
    private static final int[] WRONG_FRAMES = {-1, 4, 5, 64};

    private static final Due due = new Due();

    public static void main(String[] args) {
        mode();
        step();
        stepRefused();
        cubes();
        within();
        wideAndBad();
        sought();
        weight();
        cube();
        obligation();
        trace();
        fence();
        activity();
        order();
        holds();
        widened();
        ahead();
        bar();
        barRefused();
        barInPhases();
        due.end();
    }

    /**
     * ROUND as it is behind 11 STEPS, in PHASE 0: TOP 3, FRAME 1 has the CUBE b, FRAME 2 the CUBE a b, FRAME 3 none.
     * WITHIN FRAMES 0 to 3 are 0; 0, 1; 0, 1, 2; all.
     */
    private static FencedStates eleven() {
        FencedStates x = Due.of(ROUND);
        due.is("step(11)", x.step(11), 11);
        due.is("TOP", x.is(1), 3);
        due.is("PHASE", x.is(2), 0);
        return x;
    }

    private static void mode() {
        due.sentence(9, "MODE is told: true.");
        FencedStates x = new FencedStates();
        for (int n : new int[] {2, 1, 0, 0}) {
            due.is("mode(" + n + ")", x.mode(n), true);
            due.is("about(4)", x.about(4), n);
        }
        due.is("about(1)", x.about(1), 4);
        due.sentence(9, "False for others (0 .. 2).");
        x.mode(1);
        for (int n : new int[] {-1, 3, 4}) {
            due.is("mode(" + n + ")", x.mode(n), false);
        }
        for (int n : Due.OUTSIDE) {
            due.is("mode(" + n + ")", x.mode(n), false);
        }
        due.is("about(4)", x.about(4), 1);
        due.is("about(1)", x.about(1), 5);
    }

    private static void step() {
        due.sentence(11, "STEPS are gone, n (1 .. 500), or as many as there are: how many.");
        for (int n = 1; n <= 18; n++) {
            FencedStates x = Due.of(ROUND);
            due.is("step(" + n + ")", x.step(n), Math.min(n, 16));
            due.is("is(8)", x.is(8), Math.min(n, 16));
            due.is("is(2)", x.is(2) == 4, n >= 16);
            due.is("the rest", x.step(500), n >= 16 ? -1 : 16 - n);
        }
        FencedStates x = Due.of(ForetoldTest.COUNTER);
        due.is("step(500)", x.step(500), 500);
        due.is("step(499)", x.step(499), 499);
        due.is("step(1)", x.step(1), 1);
        due.is("is(8)", x.is(8), 1000);
    }

    private static void stepRefused() {
        due.sentence(11, "NONE for others, and if there are none.");
        FencedStates x = Due.of(ROUND);
        for (int n : new int[] {0, -1, 501, 502}) {
            due.is("step(" + n + ")", x.step(n), -1);
        }
        for (int n : Due.OUTSIDE) {
            due.is("step(" + n + ")", x.step(n), -1);
        }
        due.is("is(8)", x.is(8), 0);
        due.is("about(1)", x.about(1), 1);
        due.sentence(0, "In PHASES 3, 4 there is no STEP.");
        x.step(500);
        due.is("PHASE", x.is(2), 4);
        due.is("step(1)", x.step(1), -1);
        due.is("step(500)", x.step(500), -1);
        due.is("is(8)", x.is(8), 16);
        due.is("about(1)", x.about(1), 2);
        FencedStates y = Due.of(StepsTest.SAFE);
        y.step(500);
        due.is("PHASE", y.is(2), 3);
        due.is("step(1)", y.step(1), -1);
        due.is("is(8)", y.is(8), 12);
    }

    /** Without INIT each CUBE can be BARRED. */
    private static void cubes() {
        due.sentence(0, "A CUBE: some LETTERS (MASK, bits) and whether each is 1 (BITS, none but of these): STATES that are"
            + " so in these.");
        for (int mask = 0; mask < 8; mask++) {
            FencedStates x = Due.of("init 0;");
            for (int bits = 0; bits < 8; bits++) {
                boolean is = (bits & ~mask) == 0;
                due.is("bar(" + mask + ", " + bits + ", 1)", x.bar(mask, bits, 1), is ? 1 : -1);
                for (int s = 0; s < 8 && is; s++) {
                    due.is("within(" + s + ", 1)", x.within(s, 1), (s & mask) != bits);
                }
                x.load(0);
            }
        }
    }

    private static void within() {
        due.sentence(17, "Whether a STATE is WITHIN a FRAME.");
        due.sentence(0, "WITHIN another FRAME: all STATES that are in no CUBE of that FRAME and those above it.");
        FencedStates x = eleven();
        for (int s = 0; s < 4; s++) {
            for (int frame = 0; frame <= 3; frame++) {
                due.is("within(" + s + ", " + frame + ")", x.within(s, frame), s <= frame);
            }
            due.sentence(17, "False for others.");
            for (int frame : WRONG_FRAMES) {
                due.is("within(" + s + ", " + frame + ")", x.within(s, frame), false);
            }
            for (int frame : Due.OUTSIDE) {
                due.is("within(" + s + ", " + frame + ")", x.within(s, frame), false);
            }
        }
        due.is("within(4, 3)", x.within(4, 3), false);
        due.is("within(-1, 3)", x.within(-1, 3), false);
        due.sentence(0, "WITHIN FRAME 0:");
        FencedStates y = Due.of("init a&!c;");
        due.is("bar", y.bar(4, 4, 1), 1);
        due.is("bar", y.bar(1, 0, 1), 2);
        for (int s = 0; s < 8; s++) {
            due.is("within(" + s + ", 0)", y.within(s, 0), s == 1 || s == 3);
            due.is("within(" + s + ", 1)", y.within(s, 1), s == 1 || s == 3);
        }
        FencedStates none = Due.of("init 0;");
        due.is("wide(0)", none.wide(0), 0);
        due.is("within(0, 0)", none.within(0, 0), false);
        due.is("wide(1)", none.wide(1), 8);
    }

    private static void wideAndBad() {
        due.sentence(18, "How many STATES are WITHIN a FRAME.");
        FencedStates x = eleven();
        for (int frame = 0; frame <= 3; frame++) {
            due.is("wide(" + frame + ")", x.wide(frame), frame + 1);
            due.is("bad(" + frame + ")", x.bad(frame), frame == 3 ? 1 : 0);
            due.is("slack(" + frame + ")", x.slack(frame), 0);
        }
        due.sentence(18, "NONE for others.");
        for (int frame : WRONG_FRAMES) {
            due.is("wide(" + frame + ")", x.wide(frame), -1);
            due.is("bad(" + frame + ")", x.bad(frame), -1);
            due.is("slack(" + frame + ")", x.slack(frame), -1);
        }
        due.sentence(19, "NONE for others.");
        for (int frame : Due.OUTSIDE) {
            due.is("wide(" + frame + ")", x.wide(frame), -1);
            due.is("bad(" + frame + ")", x.bad(frame), -1);
            due.is("slack(" + frame + ")", x.slack(frame), -1);
        }
        due.sentence(19, "How many STATES of THE AIM are WITHIN a FRAME.");
        FencedStates y = Due.of("letters 6;init a;bad a;bad 1;bad 0;");
        int[][] want = {{32, 32}, {32, 64}, {0, 0}};
        for (int aim = 0; aim < 3; aim++) {
            y.aim(aim);
            due.is("bad(0)", y.bad(0), want[aim][0]);
            due.is("bad(1)", y.bad(1), want[aim][1]);
        }
    }

    private static void sought() {
        due.sentence(0, "In PHASE 0: are there STATES of THE AIM WITHIN TOP: each of the 8 lowest (or of all, if"
            + " there are fewer), the lowest first, is an OBLIGATION of LEVEL TOP, that leads to none;");
        String[] bads = {"0", "a&b&c&d", "a&!(b&c&d)", "a", "a|b&c&d", "1"};
        int[] many = {0, 1, 7, 8, 9, 16};
        for (int n = 0; n < bads.length; n++) {
            FencedStates x = Due.of("letters 4;bad " + bads[n] + ";");
            int some = Math.min(8, many[n]);
            due.is("bad(1)", x.bad(1), many[n]);
            due.is("sought(NONE)", x.sought(-1), some);
            int[] states = new int[some];
            int at = 0;
            for (int s = 0; s < 16 && at < some; s++) {
                if (x.of(s, 0)) {
                    states[at++] = s;
                }
            }
            for (int i = 0; i < some; i++) {
                due.is("sought(" + i + ")", x.sought(i), states[i]);
            }
            due.is("sought(" + some + ")", x.sought(some), -1);
            x.step(1);
            due.is("PHASE", x.is(2), some == 0 ? 2 : 1);
            due.is("TOP", x.is(1), some == 0 ? 2 : 1);
            due.is("AT", x.is(3), some == 0 ? 1 : -1);
            due.is("OBLIGATIONS", x.is(6), some);
            due.is("sought stays", x.sought(-1), some);
            for (int i = 0; i < some; i++) {
                int[] parts = {states[i], 1, i + 1, 0};
                for (int what = 0; what < 4; what++) {
                    due.is("obligation(" + i + ", " + what + ")", x.obligation(i, what), parts[what]);
                }
            }
        }
        due.sentence(20, "NONE: there is none, and for others.");
        FencedStates x = Due.of("bad a;");
        due.is("sought(3)", x.sought(3), 7);
        due.is("sought(4)", x.sought(4), -1);
        for (int i : Due.OUTSIDE) {
            due.is("sought(" + i + ")", x.sought(i), -1);
        }
        FencedStates safe = Due.of("bad a;");
        safe.step(500);
        due.is("WITHIN TOP in PHASE 3, as TOP has no CUBES of its own", safe.sought(-1), 0);
        due.sentence(20, "STATES that PHASE 0 would make OBLIGATIONS, were it now: how many (i NONE); the i-th.");
        FencedStates y = eleven();
        due.is("sought(NONE)", y.sought(-1), 1);
        due.is("sought(0)", y.sought(0), 3);
        due.is("sought(1)", y.sought(1), -1);
        y.step(1);
        due.is("LEVEL", y.obligation(0, 1), 3);
    }

    private static void weight() {
        due.sentence(21, "How many LETTERS CUBES of a FRAME (1 .. TOP) have together.");
        FencedStates x = eleven();
        int[] want = {-1, 1, 2, 0, -1};
        for (int frame = 0; frame < 5; frame++) {
            due.is("weight(" + frame + ")", x.weight(frame), want[frame]);
        }
        due.sentence(21, "NONE for others.");
        due.is("weight(-1)", x.weight(-1), -1);
        for (int frame : Due.OUTSIDE) {
            due.is("weight(" + frame + ")", x.weight(frame), -1);
        }
        FencedStates y = Due.of("letters 6;init a&b&c&d&e&f;");
        due.is("no CUBES", y.weight(1), 0);
        for (int s = 0; s < 63; s++) {
            due.is("bar", y.bar(63, s, 1), s + 1);
        }
        due.is("63 CUBES", y.weight(1), 63 * 6);
        due.is("wide(1)", y.wide(1), 1);
        FencedStates none = Due.of("init 0;");
        due.is("a CUBE without LETTERS", none.bar(0, 0, 1), 1);
        due.is("weight(1)", none.weight(1), 0);
        due.is("wide(1)", none.wide(1), 0);
    }

    private static void cube() {
        due.sentence(22, "CUBES of a FRAME (1 .. TOP): how many (i NONE); the i-th: 0 MASK, 1 BITS.");
        FencedStates x = eleven();
        int[] many = {-2, 1, 1, 0, -2};
        for (int frame = 0; frame < 5; frame++) {
            due.is("cube(" + frame + ", NONE, 0)", x.cube(frame, -1, 0), many[frame]);
        }
        due.is("cube(1, 0, 0)", x.cube(1, 0, 0), 2);
        due.is("cube(1, 0, 1)", x.cube(1, 0, 1), 2);
        due.is("cube(2, 0, 0)", x.cube(2, 0, 0), 3);
        due.is("cube(2, 0, 1)", x.cube(2, 0, 1), 3);
        due.sentence(22, "-2 if there is none such, and for others.");
        due.is("cube(1, 1, 0)", x.cube(1, 1, 0), -2);
        due.is("cube(2, 1, 0)", x.cube(2, 1, 0), -2);
        due.is("cube(3, 0, 0)", x.cube(3, 0, 0), -2);
        due.is("cube(0, 0, 0)", x.cube(0, 0, 0), -2);
        due.is("cube(1, 0, 2)", x.cube(1, 0, 2), -2);
        due.is("cube(1, 0, -1)", x.cube(1, 0, -1), -2);
        due.is("cube(-1, -1, 0)", x.cube(-1, -1, 0), -2);
        for (int n : Due.OUTSIDE) {
            due.is("cube(" + n + ", NONE, 0)", x.cube(n, -1, 0), -2);
            due.is("cube(" + n + ", 0, 0)", x.cube(n, 0, 0), -2);
            due.is("cube(1, " + n + ", 0)", x.cube(1, n, 0), -2);
            due.is("cube(1, 0, " + n + ")", x.cube(1, 0, n), -2);
        }
        due.sentence(0, "those from 1 on have CUBES in order (at first none).");
        FencedStates y = Due.of("init a&b;");
        int[] bits = {4, 0, 5, 1, 6, 2};
        for (int i = 0; i < 6; i++) {
            due.is("bar", y.bar(7, bits[i], 1), i + 1);
        }
        for (int i = 0; i < 6; i++) {
            due.is("in order", y.cube(1, i, 1), bits[i]);
        }
        due.is("cube(1, 6, 1)", y.cube(1, 6, 1), -2);
    }

    private static void obligation() {
        due.sentence(23, "OBLIGATIONS as they come: how many (i NONE); the i-th: 0 STATE, 1 LEVEL, 2 NUMBER, 3 the"
            + " NUMBER of the one it leads to (0: none).");
        due.sentence(0, "OBLIGATIONS: each a STATE, a LEVEL, the OBLIGATION it leads to, or none; a NUMBER (from 1 on, as"
            + " they are made).");
        FencedStates first = Due.of(ROUND);
        first.step(1);
        int[] made = {3, 1, 1, 0};
        for (int what = 0; what < 4; what++) {
            due.is("obligation(0, " + what + ")", first.obligation(0, what), made[what]);
        }
        FencedStates x = eleven();
        due.is("obligation(NONE, 0)", x.obligation(-1, 0), 0);
        due.is("obligation(0, 0)", x.obligation(0, 0), -2);
        x.step(4);
        int[][] want = {{0, 0, 6, 5}, {1, 1, 5, 4}, {2, 2, 4, 3}, {3, 3, 3, 0}};
        due.is("obligation(NONE, 0)", x.obligation(-1, 0), 4);
        for (int i = 0; i < 4; i++) {
            for (int what = 0; what < 4; what++) {
                due.is("obligation(" + i + ", " + what + ")", x.obligation(i, what), want[i][what]);
            }
            due.sentence(23, "-2 if there is none such, and for others.");
            due.is("obligation(" + i + ", 4)", x.obligation(i, 4), -2);
            due.is("obligation(" + i + ", -1)", x.obligation(i, -1), -2);
        }
        due.is("obligation(4, 0)", x.obligation(4, 0), -2);
        for (int n : Due.OUTSIDE) {
            due.is("obligation(" + n + ", 0)", x.obligation(n, 0), -2);
            due.is("obligation(0, " + n + ")", x.obligation(0, n), -2);
        }
        due.sentence(0, "They come by LEVELS, the lowest first, of like ones by STATES, of like ones by NUMBERS.");
        // 1 and 3 are bad and stay, 2 goes to both, 0 stays: 2 comes behind these, and is put ahead of them
        FencedStates y = Due.of("letters 2;next a a|b;next b b&(a|y);bad a;");
        y.step(8);
        int[][] queue = {{2, 1, 5, 3}, {1, 2, 3, 0}, {3, 2, 4, 0}};
        due.is("obligation(NONE, 0)", y.obligation(-1, 0), 3);
        for (int i = 0; i < 3; i++) {
            for (int what = 0; what < 4; what++) {
                due.is("obligation(" + i + ", " + what + ")", y.obligation(i, what), queue[i][what]);
            }
        }
    }

    private static void trace() {
        FencedStates x = eleven();
        due.sentence(24, "THE TRACE: how many STATES (i NONE; 0 but in PHASE 4); the i-th: 0 the STATE, 1 the lowest"
            + " INPUT by which the next one is its SUCCESSOR (NONE at the last).");
        for (int n = 0; n < 5; n++) {
            due.is("trace(NONE, 0)", x.trace(-1, 0), 0);
            due.is("trace(0, 0)", x.trace(0, 0), -2);
            x.step(1);
        }
        due.is("PHASE", x.is(2), 4);
        due.is("trace(NONE, 0)", x.trace(-1, 0), 4);
        for (int i = 0; i < 4; i++) {
            due.is("trace(" + i + ", 0)", x.trace(i, 0), i);
            due.is("trace(" + i + ", 1)", x.trace(i, 1), i == 3 ? -1 : 0);
            due.sentence(24, "-2 if there is none such, and for others.");
            due.is("trace(" + i + ", 2)", x.trace(i, 2), -2);
            due.is("trace(" + i + ", -1)", x.trace(i, -1), -2);
        }
        due.is("trace(4, 0)", x.trace(4, 0), -2);
        due.is("trace(4, 1)", x.trace(4, 1), -2);
        for (int n : Due.OUTSIDE) {
            due.is("trace(" + n + ", 0)", x.trace(n, 0), -2);
            due.is("trace(0, " + n + ")", x.trace(0, n), -2);
        }
        due.sentence(24, "1 the lowest INPUT by which the next one is its SUCCESSOR");
        String[] by = {"1", "x|y", "y", "x&y", "x", "!x&y"};
        int[] input = {0, 1, 2, 3, 1, 2};
        for (int n = 0; n < by.length; n++) {
            FencedStates y = Due.of("letters 1;next a " + by[n] + ";bad a;");
            y.step(500);
            due.is("trace(NONE, 0)", y.trace(-1, 0), 2);
            due.is("trace(0, 1) by " + by[n], y.trace(0, 1), input[n]);
            due.is("shortest(0, 1) by " + by[n], y.shortest(0, 1), input[n]);
        }
        due.is("aim", x.aim(0), true);
        due.is("trace(NONE, 0)", x.trace(-1, 0), 0);
    }

    private static void fence() {
        due.sentence(25, "THE FENCE: how many CUBES (i NONE; 0 but in PHASE 3); the i-th: 0 MASK, 1 BITS.");
        FencedStates x = Due.of(StepsTest.SAFE);
        for (int n = 0; n < 12; n++) {
            due.is("fence(NONE, 0)", x.fence(-1, 0), 0);
            due.is("fence(0, 0)", x.fence(0, 0), -2);
            x.step(1);
        }
        due.is("fence(NONE, 0)", x.fence(-1, 0), 2);
        for (int i = 0; i < 2; i++) {
            due.is("fence(" + i + ", 0)", x.fence(i, 0), i + 1);
            due.is("fence(" + i + ", 1)", x.fence(i, 1), i + 1);
            due.sentence(25, "-2 if there is none such, and for others.");
            due.is("fence(" + i + ", 2)", x.fence(i, 2), -2);
            due.is("fence(" + i + ", -1)", x.fence(i, -1), -2);
        }
        due.is("fence(2, 0)", x.fence(2, 0), -2);
        for (int n : Due.OUTSIDE) {
            due.is("fence(" + n + ", 0)", x.fence(n, 0), -2);
            due.is("fence(0, " + n + ")", x.fence(0, n), -2);
        }
        due.sentence(0, "PHASE 3, THE FENCE: all CUBES of FRAMES above it, FRAME by FRAME.");
        FencedStates none = new FencedStates();
        due.is("step(500)", none.step(500), 2);
        due.is("PHASE", none.is(2), 3);
        due.is("fence(NONE, 0)", none.fence(-1, 0), 0);
        due.is("fence(0, 0)", none.fence(0, 0), -2);
        x.aim(0);
        due.is("fence(NONE, 0)", x.fence(-1, 0), 0);
        FencedStates unsafe = Due.of(ROUND);
        unsafe.step(500);
        due.is("fence(NONE, 0)", unsafe.fence(-1, 0), 0);
        due.is("fence(0, 0)", unsafe.fence(0, 0), -2);
    }

    private static void activity() {
        due.sentence(26, "ACTIVITY of a LETTER (from 0), or BUMP (NONE): the float's bits.");
        FencedStates x = eleven();
        due.is("activity(0)", x.activity(0), Float.floatToIntBits(1.5f));
        due.is("activity(1)", x.activity(1), Float.floatToIntBits(2.5f));
        due.is("activity(NONE)", x.activity(-1), Float.floatToIntBits(2.25f));
        due.sentence(26, "-2 for others.");
        for (int letter : new int[] {2, 3, 5, 6, 7, -2}) {
            due.is("activity(" + letter + ")", x.activity(letter), -2);
        }
        for (int letter : Due.OUTSIDE) {
            due.is("activity(" + letter + ")", x.activity(letter), -2);
        }
        due.sentence(0, "ACTIVITIES of LETTERS, at first 0, BUMP, at first 1: floats.");
        for (int letters = 1; letters <= 6; letters++) {
            FencedStates y = Due.of("letters " + letters + ";");
            due.is("activity(NONE)", y.activity(-1), 0x3f800000);
            for (int letter = 0; letter < 8; letter++) {
                due.is("activity(" + letter + ")", y.activity(letter), letter < letters ? 0 : -2);
            }
        }
    }

    private static void order() {
        due.sentence(27, "The i-th LETTER (from 0) in their ORDER.");
        for (int letters = 1; letters <= 6; letters++) {
            FencedStates x = Due.of("letters " + letters + ";");
            for (int mode = 0; mode < 3; mode++) {
                x.mode(mode);
                for (int i = 0; i < letters; i++) {
                    due.is("of like ones the lower LETTER", x.order(i), i);
                }
                due.is("order(" + letters + ")", x.order(letters), -1);
            }
        }
        // b c d f have an ACTIVITY of 1, then c has 2.5 by 1 + 1.5
        FencedStates x = Due.of("letters 6;init !(b&c&d&f);bad b&c&d&f;bad c&!b&!(a|d|e|f);");
        x.step(2);
        due.is("weight(1)", x.weight(1), 4);
        int[][] order = {{0, 4, 1, 2, 3, 5}, {0, 1, 2, 3, 4, 5}, {1, 2, 3, 5, 0, 4}};
        for (int mode = 0; mode < 3; mode++) {
            x.mode(mode);
            for (int i = 0; i < 6; i++) {
                due.is("order(" + i + ") by MODE " + mode, x.order(i), order[mode][i]);
            }
            due.sentence(27, "NONE: there is none.");
            due.is("order(6)", x.order(6), -1);
            due.is("order(-1)", x.order(-1), -1);
            for (int i : Due.OUTSIDE) {
                due.is("order(" + i + ")", x.order(i), -1);
            }
        }
    }

    private static void holds() {
        due.sentence(0, "A CUBE HOLDS AT a FRAME: no STATE that is WITHIN it, outside the CUBE, has a SUCCESSOR in"
            + " the CUBE");
        FencedStates x = eleven();
        // MASK, BITS, and FRAMES 0 to 3: a STATE is led into from the one less, 0 from 3
        int[][] want = {{3, 0, 1, 1, 1, 0}, {3, 1, 0, 0, 0, 0}, {3, 2, 1, 0, 0, 0}, {3, 3, 1, 1, 0, 0},
            {0, 0, 1, 1, 1, 1}, {1, 0, 1, 0, 0, 0}, {1, 1, 0, 0, 0, 0}, {2, 0, 1, 1, 1, 0}, {2, 2, 1, 0, 0, 0}};
        for (int[] w : want) {
            for (int frame = 0; frame <= 3; frame++) {
                due.is("holds(" + w[0] + ", " + w[1] + ", " + frame + ")", x.holds(w[0], w[1], frame), w[2 + frame] == 1);
            }
        }
        due.sentence(28, "Whether a CUBE HOLDS AT a FRAME (0 .. TOP; MASK of LETTERS, BITS none but of these).");
        due.is("holds(3, 0, 2)", x.holds(3, 0, 2), true);
        due.is("holds(3, 0, 3)", x.holds(3, 0, 3), false);
        due.sentence(28, "False for others.");
        for (int frame : new int[] {-1, 4, 5}) {
            due.is("holds(0, 0, " + frame + ")", x.holds(0, 0, frame), false);
        }
        for (int n : Due.OUTSIDE) {
            due.is("holds(0, 0, " + n + ")", x.holds(0, 0, n), false);
            due.is("holds(" + n + ", 0, 0)", x.holds(n, 0, 0), false);
            due.is("holds(3, " + n + ", 0)", x.holds(3, n, 0), false);
        }
        int[][] wrong = {{4, 0}, {4, 4}, {7, 0}, {64, 0}, {-1, 0}, {-1, -1}, {0, 1}, {1, 2}, {2, 1}, {2, 3}, {3, 4}, {3, -1}};
        for (int[] w : wrong) {
            due.is("holds(" + w[0] + ", " + w[1] + ", 0)", x.holds(w[0], w[1], 0), false);
        }
        due.sentence(28, "It isn't counted.");
        due.is("is(9)", x.is(9), 8);
    }

    private static void widened() {
        due.sentence(29, "A STATE's CUBE WIDENED by a LEVEL (1 .. TOP): MASK times 64 and BITS.");
        FencedStates x = eleven();
        int[][] want = {{-1, -1, -1}, {-1, -1, -1}, {2 * 64 + 2, -1, -1}, {2 * 64 + 2, 3 * 64 + 3, -1}};
        for (int s = 0; s < 4; s++) {
            for (int level = 1; level <= 3; level++) {
                due.is("widened(" + s + ", " + level + ")", x.widened(s, level), want[s][level - 1]);
            }
            due.sentence(29, "NONE: it is of INIT, or its own CUBE does not HOLD AT FRAME LEVEL less 1, and for"
                + " others.");
            due.is("widened(" + s + ", 0)", x.widened(s, 0), -1);
            due.is("widened(" + s + ", -1)", x.widened(s, -1), -1);
            due.is("widened(" + s + ", 4)", x.widened(s, 4), -1);
            for (int level : Due.OUTSIDE) {
                due.is("widened(" + s + ", " + level + ")", x.widened(s, level), -1);
            }
        }
        due.sentence(29, "It isn't counted.");
        due.is("is(9)", x.is(9), 8);
        due.is("is(10)", x.is(10), 2);
        due.sentence(0, "1: as they are;");
        // a, b or c is dropped last as it has to stay: by ACTIVITIES c 1, b 0, a 0
        FencedStates y = Due.of("bad c&!a&!b;bad a;");
        y.step(2);
        due.is("activity(2)", y.activity(2), 0x3f800000);
        int[] byMode = {4 * 64 + 4, 4 * 64 + 4, 2 * 64 + 2};
        for (int mode = 0; mode < 3; mode++) {
            y.mode(mode);
            due.is("widened(7, 1) by MODE " + mode, y.widened(7, 1), byMode[mode]);
            due.is("widened(3, 1) by MODE " + mode, y.widened(3, 1), 2 * 64 + 2);
            due.is("widened(1, 1) by MODE " + mode, y.widened(1, 1), 64 + 1);
            due.is("widened(0, 1) by MODE " + mode, y.widened(0, 1), -1);
        }
        FencedStates all = Due.of("letters 6;init 0;");
        due.is("without INIT all are dropped", all.widened(63, 1), 0);
        FencedStates other = Due.of("letters 6;init !(a&b&c&d&e&f);");
        due.is("none is", other.widened(63, 1), 63 * 64 + 63);
    }

    private static void ahead() {
        due.sentence(30, "The lowest STATE WITHIN a FRAME that has this one as a SUCCESSOR, another one.");
        FencedStates x = eleven();
        int[][] want = {{-1, -1, -1, 3}, {0, 0, 0, 0}, {-1, 1, 1, 1}, {-1, -1, 2, 2}};
        for (int s = 0; s < 4; s++) {
            for (int frame = 0; frame <= 3; frame++) {
                due.is("ahead(" + s + ", " + frame + ")", x.ahead(s, frame), want[s][frame]);
            }
            due.sentence(30, "NONE: there is none, and for others.");
            for (int frame : WRONG_FRAMES) {
                due.is("ahead(" + s + ", " + frame + ")", x.ahead(s, frame), -1);
            }
            for (int frame : Due.OUTSIDE) {
                due.is("ahead(" + s + ", " + frame + ")", x.ahead(s, frame), -1);
            }
        }
        due.sentence(30, "another one");
        FencedStates stay = Due.of("letters 6;init 1;");
        for (int s = 0; s < 64; s++) {
            due.is("ahead(" + s + ", 0)", stay.ahead(s, 0), -1);
        }
        // all go to 0 and to 63 too
        FencedStates all = Due.of("letters 6;init f;next a x;next b x;next c x;next d x;next e x;next f x;");
        due.is("ahead(0, 1)", all.ahead(0, 1), 1);
        due.is("ahead(0, 0)", all.ahead(0, 0), 32);
        due.is("ahead(63, 1)", all.ahead(63, 1), 0);
        due.is("ahead(63, 0)", all.ahead(63, 0), 32);
        due.is("ahead(1, 1)", all.ahead(1, 1), -1);
    }

    private static FencedStates twoFrames() {
        FencedStates x = Due.of("bad a;bad b;");
        x.step(500);
        x.aim(1);
        due.is("TOP", x.is(1), 2);
        due.is("the CUBE a", x.cube(2, 0, 0), 1);
        return x;
    }

    private static int[] masks(FencedStates x, int frame) {
        int[] row = new int[x.cube(frame, -1, 0)];
        for (int i = 0; i < row.length; i++) {
            row[i] = x.cube(frame, i, 0);
        }
        return row;
    }

    private static void frames(FencedStates x, String one, String two) {
        due.is("FRAME 1 is " + java.util.Arrays.toString(masks(x, 1)) + " for " + one,
            java.util.Arrays.toString(masks(x, 1)).equals(one), true);
        due.is("FRAME 2 is " + java.util.Arrays.toString(masks(x, 2)) + " for " + two,
            java.util.Arrays.toString(masks(x, 2)).equals(two), true);
    }

    private static void bar() {
        due.sentence(10, "BARRED by hand: how many CUBES the FRAME has then.");
        FencedStates x = twoFrames();
        due.is("bar(3, 3, 1)", x.bar(3, 3, 1), 1);
        frames(x, "[3]", "[1]");
        due.is("bar(6, 6, 1)", x.bar(6, 6, 1), 2);
        frames(x, "[3, 6]", "[1]");
        due.is("bar(6, 6, 2)", x.bar(6, 6, 2), 2);
        frames(x, "[3]", "[1, 6]");
        due.is("bar(7, 7, 1)", x.bar(7, 7, 1), 2);
        frames(x, "[3, 7]", "[1, 6]");
        due.sentence(0, "it is the last CUBE there, all others of FRAMES 1 to there that LIE IN it are out");
        due.is("bar(2, 2, 1), in which one of FRAME 2 lies", x.bar(2, 2, 1), 1);
        frames(x, "[2]", "[1, 6]");
        due.is("bar(7, 6, 1)", x.bar(7, 6, 1), 2);
        due.is("the same again", x.bar(7, 6, 1), 2);
        frames(x, "[2, 7]", "[1, 6]");
        due.is("bar(1, 1, 2), as it is there", x.bar(1, 1, 2), 2);
        frames(x, "[2, 7]", "[6, 1]");
        due.is("bar(2, 2, 2)", x.bar(2, 2, 2), 2);
        frames(x, "[]", "[1, 2]");
        due.sentence(0, "(nothing is counted, no ACTIVITY changes)");
        due.is("is(9)", x.is(9), 4);
        due.is("is(10)", x.is(10), 1);
        due.is("is(11)", x.is(11), 1);
        due.is("activity(1)", x.activity(1), 0);
        due.is("activity(NONE)", x.activity(-1), 0x3fc00000);
        due.sentence(0, "One LIES IN another one, if all its STATES are of that.");
        FencedStates y = Due.of("");
        int[][] outer = {{1, 1}, {3, 1}, {3, 3}, {7, 7}, {4, 4}};
        for (int[] o : outer) {
            for (int mask = 0; mask < 8; mask++) {
                for (int bits = 0; bits < 8; bits++) {
                    if ((bits & ~mask) == 0 && bits != 0) {
                        boolean lies = true;
                        for (int s = 0; s < 8; s++) {
                            lies &= (s & mask) != bits || (s & o[0]) == o[1];
                        }
                        y.load(0);
                        due.is("the first", y.bar(mask, bits, 1), 1);
                        due.is("(" + mask + ", " + bits + ") in (" + o[0] + ", " + o[1] + ")",
                            y.bar(o[0], o[1], 1), lies ? 1 : 2);
                    }
                }
            }
        }
    }

    private static void barRefused() {
        due.sentence(10, "NONE for others (MASK of LETTERS, BITS none but of these).");
        FencedStates x = twoFrames();
        int back = x.about(1);
        for (int frame : new int[] {0, -1, 3, 4}) {
            due.is("bar(2, 2, " + frame + ")", x.bar(2, 2, frame), -1);
        }
        for (int n : Due.OUTSIDE) {
            due.is("bar(2, 2, " + n + ")", x.bar(2, 2, n), -1);
            due.is("bar(" + n + ", 2, 1)", x.bar(n, 2, 1), -1);
            due.is("bar(7, " + n + ", 1)", x.bar(7, n, 1), -1);
        }
        int[][] wrong = {{8, 8}, {15, 15}, {9, 1}, {-1, 2}, {-6, 2}, {2, 1}, {2, 3}, {0, 2}, {7, 8}, {7, 15}, {7, -1}};
        for (int[] w : wrong) {
            due.is("bar(" + w[0] + ", " + w[1] + ", 1)", x.bar(w[0], w[1], 1), -1);
        }
        due.sentence(0, "that has no STATE of INIT and HOLDS AT the FRAME one less");
        for (int mask = 0; mask < 8; mask++) {
            due.is("it has STATE 0", x.bar(mask, 0, 1), -1);
            due.is("it has STATE 0", x.bar(mask, 0, 2), -1);
        }
        due.is("about(1)", x.about(1), back);
        frames(x, "[]", "[1]");
        FencedStates y = eleven();
        int[][] want = {{3, 1, 0, 0, 0}, {3, 2, 1, 0, 0}, {3, 3, 1, 1, 0}, {1, 1, 0, 0, 0}, {2, 2, 1, 0, 0}};
        for (int[] w : want) {
            for (int frame = 1; frame <= 3; frame++) {
                y.image();
                due.is("bar(" + w[0] + ", " + w[1] + ", " + frame + ")", y.bar(w[0], w[1], frame) > 0, w[1 + frame] == 1);
                y.back();
            }
        }
    }

    private static void barInPhases() {
        due.sentence(0, "BARRED by hand (in PHASES 0, 1 alone)");
        FencedStates x = Due.of(ROUND);
        for (int n = 0; n < 16; n++) {
            x.image();
            due.is("bar in PHASE " + x.is(2), x.bar(3, 3, 1) > 0, x.is(2) <= 1);
            x.back();
            x.step(1);
        }
        due.is("PHASE", x.is(2), 4);
        due.is("bar", x.bar(3, 3, 1), -1);
        FencedStates y = Due.of("bad a;");
        y.step(500);
        due.is("PHASE", y.is(2), 3);
        due.is("bar", y.bar(3, 3, 1), -1);
        y.aim(0);
        due.is("bar", y.bar(3, 3, 1), 1);
    }
}

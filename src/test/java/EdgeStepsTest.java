/** Each sentence on A STEP, on what is WIDENED, and on THE AIM told, at its edges. */
final class EdgeStepsTest {
    private static final Due due = new Due();

    public static void main(String[] args) {
        phases();
        seekNone();
        obligeNone();
        ofInit();
        out();
        ahead();
        notAhead();
        up();
        liesIn();
        push();
        pushByHand();
        fence();
        activities();
        widened();
        aimTold();
        modeStays();
        due.end();
    }

    /** FRAMES as a text: "7,7 3,1 | 7,2 | " has two CUBES, one and none. */
    private static String frames(FencedStates x) {
        StringBuilder b = new StringBuilder();
        for (int frame = 1; frame <= x.is(1); frame++) {
            b.append(frame > 1 ? " | " : "");
            int many = x.cube(frame, -1, 0);
            for (int i = 0; i < many; i++) {
                b.append(i > 0 ? " " : "").append(x.cube(frame, i, 0)).append(',').append(x.cube(frame, i, 1));
            }
        }
        return b.toString();
    }

    private static void seen(FencedStates x, String want) {
        due.is("FRAMES are " + frames(x) + " for " + want, frames(x).equals(want), true);
    }

    /** A MACHINE that is DRAWN, and what a STEP makes of its FRAMES; how many it asks, and its PHASE then. */
    private static void drawn(int seed, int letters, int step, String before, String after, int asked, int phase) {
        FencedStates x = new FencedStates();
        x.drawn(seed, letters);
        due.is("step", x.step(step - 1), step - 1);
        seen(x, before);
        int ahead = x.is(9);
        x.step(1);
        seen(x, after);
        due.is("ASKED by STEP " + step + " of " + seed, x.is(9) - ahead, asked);
        due.is("PHASE", x.is(2), phase);
    }

    private static void phases() {
        due.sentence(0, "0 SEEKS (at first), 1 OBLIGES, 2 PUSHES, 3 SAFE, 4 UNSAFE.");
        FencedStates x = Due.of(EdgeFramesTest.ROUND);
        int[] want = {0, 1, 1, 0, 2, 0, 1, 1, 0, 2, 2, 0, 1, 1, 1, 1, 4};
        for (int n = 0; n < want.length; n++) {
            due.is("PHASE behind " + n, x.is(2), want[n]);
            due.is("AT behind " + n, x.is(3), n == 4 || n == 9 ? 1 : n == 10 ? 2 : -1);
            x.step(1);
        }
        FencedStates y = Due.of("");
        int[] safe = {0, 2, 3};
        for (int n = 0; n < safe.length; n++) {
            due.is("PHASE behind " + n, y.is(2), safe[n]);
            y.step(1);
        }
    }

    private static void seekNone() {
        due.sentence(0, "Else TOP is one more, PHASE 2, AT is 1.");
        FencedStates x = Due.of("");
        x.step(1);
        due.is("TOP", x.is(1), 2);
        due.is("PHASE", x.is(2), 2);
        due.is("AT", x.is(3), 1);
        due.is("OBLIGATIONS", x.is(6), 0);
        due.is("ASKED", x.is(9), 0);
        due.is("CUBES of the new TOP", x.cube(2, -1, 0), 0);
        due.is("wide(2)", x.wide(2), 8);
        due.is("wide(3)", x.wide(3), -1);
    }

    private static void obligeNone() {
        due.sentence(0, "In PHASE 1: without OBLIGATIONS PHASE 0.");
        FencedStates x = Due.of("letters 1;bad a;");
        x.step(2);
        due.is("OBLIGATIONS", x.is(6), 0);
        due.is("PHASE", x.is(2), 1);
        int asked = x.is(9);
        x.step(1);
        due.is("PHASE", x.is(2), 0);
        due.is("TOP", x.is(1), 1);
        due.is("ASKED", x.is(9), asked);
        due.is("STEPS", x.is(8), 3);
    }

    private static void ofInit() {
        due.sentence(0, "PHASE 4, THE TRACE: its STATE, that of the one it leads to, and so on.");
        // 0 is of INIT and bad, and has all others as a SUCCESSOR and ahead of it
        FencedStates x = Due.of("letters 1;bad 1;next a x;");
        due.is("step(500)", x.step(500), 2);
        due.is("PHASE", x.is(2), 4);
        due.is("trace(NONE, 0)", x.trace(-1, 0), 1);
        due.is("trace(0, 0)", x.trace(0, 0), 0);
        due.is("trace(0, 1)", x.trace(0, 1), -1);
        due.is("ASKED", x.is(9), 0);
        due.is("OBLIGATIONS stay", x.is(6), 2);
        // the lowest of the STATES that are sought is not of INIT, and is BARRED; the next one is
        FencedStates y = Due.of("init a;bad !b&!c;");
        due.is("step(500)", y.step(500), 3);
        due.is("trace(0, 0)", y.trace(0, 0), 1);
        due.is("BARRED", y.is(10), 1);
    }

    private static void out() {
        due.sentence(0, "Is its STATE not WITHIN its LEVEL's FRAME, it is out.");
        FencedStates x = Due.of("bad a;");
        x.step(2);
        due.is("ASKED", x.is(9), 3);
        for (int n = 3; n >= 0; n--) {
            due.is("OBLIGATIONS", x.is(6), n);
            due.is("PHASE", x.is(2), 1);
            due.is("the first", x.obligation(0, 0), n == 0 ? -2 : 9 - 2 * n);
            x.step(1);
        }
        due.is("PHASE", x.is(2), 0);
        due.is("ASKED", x.is(9), 3);
        due.is("BARRED", x.is(10), 1);
        // a CUBE by hand takes the STATE out, too
        FencedStates y = Due.of("bad a;");
        y.step(1);
        y.bar(7, 1, 1);
        y.step(1);
        due.is("OBLIGATIONS", y.is(6), 3);
        due.is("ASKED", y.is(9), 0);
        due.is("BARRED", y.is(10), 0);
    }

    private static void ahead() {
        due.sentence(0, "the lowest is a new OBLIGATION of LEVEL less 1, that leads to it (it stays).");
        FencedStates x = Due.of("init a^b;bad a&b;next a a|b;next b a|b;");
        x.step(2);
        due.is("OBLIGATIONS", x.is(6), 3);
        int[][] want = {{1, 0, 3, 1}, {3, 1, 1, 0}, {7, 1, 2, 0}};
        for (int i = 0; i < 3; i++) {
            for (int what = 0; what < 4; what++) {
                due.is("obligation(" + i + ", " + what + ")", x.obligation(i, what), want[i][what]);
            }
        }
        due.is("ASKED", x.is(9), 1);
        due.is("the latest NUMBER", x.is(7), 3);
        x.step(1);
        due.is("PHASE", x.is(2), 4);
        due.is("trace(0, 0)", x.trace(0, 0), 1);
        due.is("trace(1, 0)", x.trace(1, 0), 3);
    }

    private static void notAhead() {
        due.sentence(0, "is there a STATE WITHIN FRAME LEVEL less 1, another one, with it as a SUCCESSOR (asked, too)");
        // 3 has itself alone ahead, or 2, which is not WITHIN FRAME 0
        FencedStates x = Due.of("letters 2;init a^b;bad a&b;");
        x.step(2);
        due.is("OBLIGATIONS", x.is(6), 0);
        due.is("BARRED", x.is(10), 1);
        seen(x, "3,3");
        FencedStates y = Due.of("letters 2;bad a&b;next a a|b;");
        y.step(2);
        due.is("BARRED", y.is(10), 1);
        seen(y, "2,2");
    }

    private static void up() {
        due.sentence(0, "UP is LEVEL; as long as UP is below TOP and the CUBE HOLDS AT FRAME UP, UP is one more; it"
            + " is the last CUBE of FRAME UP; all others of FRAMES 1 to UP that LIE IN it are out;");
        // not at all, though TOP is above
        drawn(0, 3, 8, "7,7 | ", "7,7 7,1 | ", 4, 1);
        drawn(10, 3, 8, "5,5 | ", "5,5 3,1 | ", 4, 1);
        // by one, not up to TOP
        drawn(316, 3, 19, "3,3 5,1 6,2 | 7,7 | ", "3,3 5,1 6,2 | 7,7 7,4 | ", 5, 1);
        drawn(945, 3, 23, "2,2 | 6,6 | 7,7 | ", "2,2 | 6,6 5,5 | 7,7 | ", 6, 1);
        // by two, up to TOP
        drawn(415, 3, 15, "5,5 | 7,7 | ", "5,5 | 7,7 | 7,2", 5, 1);
        drawn(4580, 3, 17, "3,3 6,2 | 7,7 | ", "3,3 6,2 | 7,7 | 7,4", 5, 1);
    }

    private static void liesIn() {
        // of the same FRAME and the one above it in which it is put
        drawn(93, 3, 18, "6,6 3,2 5,4 | 7,7 | ", "3,2 5,4 | 6,6 | ", 5, 1);
        drawn(116, 3, 37, "2,2 5,5 | 6,6 3,2 | 7,2 | 7,7 | ", "5,5 | 2,2 | 7,2 | 7,7 | ", 5, 1);
        // those above it stay
        drawn(116, 3, 36, "2,2 | 6,6 3,2 | 7,2 | 7,7 | ", "2,2 5,5 | 6,6 3,2 | 7,2 | 7,7 | ", 5, 1);
        drawn(2154, 3, 26, "2,2 1,1 | 6,6 3,3 | 7,7 | ", "1,1 | 2,2 | 7,7 | ", 4, 1);
    }

    private static void push() {
        due.sentence(0, "CUBES of FRAME AT, in order: each that HOLDS AT FRAME AT is the last one of the next FRAME,"
            + " all others of FRAMES 1 to there that LIE IN it are out (moved ones:");
        drawn(1318, 3, 13, "3,3 | 7,4 7,7 | ", "3,3 |  | 7,4 7,7", 2, 3);
        drawn(1600, 3, 26, "2,2 | 7,2 1,1 | 4,4 | ", " | 1,1 2,2 | 4,4 | ", 1, 3);
        drawn(2487, 4, 26, "3,3 10,2 6,2 7,4 | 14,2 7,7 | 15,15 | ", "3,3 6,2 7,4 | 7,7 10,2 | 15,15 | ", 4, 2);
        drawn(2929, 4, 38, "8,8 4,4 3,1 | 14,14 14,4 13,4 9,8 | 7,5 | 13,13 | ",
            "8,8 4,4 3,1 | 14,14 9,8 | 7,5 14,4 13,4 | 13,13 | ", 4, 2);
        due.sentence(0, "Else AT is one more; is it TOP, PHASE 0.");
        FencedStates x = new FencedStates();
        x.drawn(2929, 4);
        x.step(38);
        due.is("MOVED", x.is(11), 2);
        due.is("AT", x.is(3), 3);
        due.is("TOP", x.is(1), 5);
        x.step(1);
        due.is("AT", x.is(3), 4);
        x.step(1);
        due.is("AT", x.is(3), -1);
        due.is("PHASE", x.is(2), 0);
    }

    /** CUBES by hand, of STATES that all stay: each HOLDS everywhere. */
    private static void pushByHand() {
        due.sentence(0, "all others of FRAMES 1 to there that LIE IN it are out (moved ones:");
        FencedStates x = Due.of("");
        int[] cubes = {1, 3, 5, 6};
        for (int i = 0; i < 4; i++) {
            due.is("bar", x.bar(cubes[i], cubes[i], 1), i + 1);
        }
        x.step(1);
        seen(x, "1,1 3,3 5,5 6,6 | ");
        x.step(1);
        seen(x, " | 1,1 6,6");
        due.is("MOVED", x.is(11), 2);
        due.is("those that are out are not asked for", x.is(9), 2);
        due.is("PHASE", x.is(2), 3);
        x.aim(0);
        x.bar(3, 3, 1);
        x.bar(7, 6, 1);
        x.step(2);
        seen(x, " | 1,1 6,6 3,3 7,6 | ");
        due.is("MOVED", x.is(11), 4);
        due.is("fence(NONE, 0)", x.fence(-1, 0), 4);
        x.aim(0);
        // FRAME 1 has what lies in what moves up to it
        x.bar(7, 3, 1);
        x.bar(2, 2, 1);
        seen(x, "2,2 | 1,1 6,6 3,3 7,6");
        x.step(2);
        seen(x, " | 1,1 2,2 | ");
    }

    private static void fence() {
        due.sentence(0, "Has FRAME AT no CUBES then:");
        drawn(44, 2, 11, "1,1 | 3,3 | ", "1,1 |  | 3,3", 1, 3);
        drawn(531, 3, 18, "6,6 | 5,5 | 7,7 | ", "6,6 | 5,5 |  | 7,7", 1, 3);
        drawn(945, 3, 30, "2,2 | 6,6 | 3,2 | 5,5 | ", "2,2 |  | 3,2 6,6 | 5,5 | ", 1, 3);
        drawn(5352, 3, 33, " | 1,1 | 2,2 | 4,4 | ", " | 1,1 | 2,2 | 4,4 | ", 0, 3);
        due.sentence(0, "PHASE 3, THE FENCE: all CUBES of FRAMES above it, FRAME by FRAME.");
        FencedStates x = new FencedStates();
        x.drawn(945, 3);
        x.step(30);
        int[][] want = {{3, 2}, {6, 6}, {5, 5}};
        due.is("fence(NONE, 0)", x.fence(-1, 0), 3);
        for (int i = 0; i < 3; i++) {
            due.is("fence(" + i + ", 0)", x.fence(i, 0), want[i][0]);
            due.is("fence(" + i + ", 1)", x.fence(i, 1), want[i][1]);
        }
        due.is("fence(3, 0)", x.fence(3, 0), -2);
        due.is("judged(1)", x.judged(1), 0);
        x.drawn(5352, 3);
        x.step(33);
        for (int i = 0; i < 3; i++) {
            due.is("fence(" + i + ", 0)", x.fence(i, 0), 1 << i);
        }
        x.drawn(44, 2);
        x.step(11);
        due.is("fence(NONE, 0)", x.fence(-1, 0), 1);
        due.is("fence(0, 0)", x.fence(0, 0), 3);
    }

    private static void activities() {
        due.sentence(0, "ACTIVITIES of its LETTERS are BUMP more each;");
        FencedStates x = new FencedStates();
        x.drawn(93, 3);
        x.step(17);
        int[] values = new int[4];
        for (int letter = -1; letter < 3; letter++) {
            values[letter + 1] = x.activity(letter);
        }
        x.step(1);
        // the CUBE b c was BARRED
        float bump = Float.intBitsToFloat(values[0]);
        due.is("a", x.activity(0), values[1]);
        due.is("b", x.activity(1), Float.floatToIntBits(Float.intBitsToFloat(values[2]) + bump));
        due.is("c", x.activity(2), Float.floatToIntBits(Float.intBitsToFloat(values[3]) + bump));
        due.sentence(0, "BUMP is 1.5 times that; is an ACTIVITY above 1000, all ACTIVITIES and BUMP are 0.001 times"
            + " that; the OBLIGATION is out.");
        due.is("BUMP", x.activity(-1), Float.floatToIntBits(bump * 1.5f));
        FencedStates y = new FencedStates();
        y.drawn(93, 3);
        y.step(17);
        int many = y.is(6);
        y.step(1);
        due.is("OBLIGATIONS", y.is(6), many - 1);
    }

    private static void widened() {
        due.sentence(0, "ACTIVITIES, the highest first; of like ones the lower LETTER): each is dropped, if the CUBE"
            + " without it has no STATE of INIT and HOLDS AT FRAME LEVEL less 1.");
        String[] wide = {"3,3", "14,14", "13,13"};
        int[][] order = {{2, 0, 1, 3}, {0, 1, 2, 3}, {1, 3, 0, 2}};
        for (int mode = 0; mode < 3; mode++) {
            FencedStates x = new FencedStates();
            x.drawn(402, 4);
            x.step(10);
            x.mode(mode);
            due.is("the STATE", x.obligation(0, 0), 15);
            for (int i = 0; i < 4; i++) {
                due.is("order(" + i + ") by MODE " + mode, x.order(i), order[mode][i]);
            }
            x.step(1);
            seen(x, "4,4 1,1 10,8 | " + wide[mode]);
        }
        FencedStates y = Due.of("letters 2;init !a&!b;bad a&b;next a a;");
        due.is("widened(3, 1)", y.widened(3, 1), 2 * 64 + 2);
        y.mode(1);
        due.is("widened(3, 1)", y.widened(3, 1), 2 * 64 + 2);
        // from 0 to 2: b can't be dropped of 3, nor of 1 a
        FencedStates z = Due.of("letters 2;bad a&b;next b 1;");
        due.is("widened(3, 1)", z.widened(3, 1), 64 + 1);
        due.is("widened(2, 1) is led into from 0", z.widened(2, 1), -1);
        due.is("widened(1, 1)", z.widened(1, 1), 64 + 1);
    }

    private static void aimTold() {
        due.sentence(0, "THE AIM told (also as it is): no OBLIGATIONS, PHASE 0, TOP is the highest FRAME that has"
            + " CUBES, 1 at least; all else stays.");
        FencedStates x = Due.of("");
        for (int n = 0; n < 3; n++) {
            x.step(500);
            due.is("TOP", x.is(1), 2);
            x.aim(0);
            due.is("TOP without CUBES", x.is(1), 1);
            due.is("PHASE", x.is(2), 0);
        }
        due.is("STEPS", x.is(8), 6);
        // at each STEP of a way that is UNSAFE
        for (int n = 0; n <= 16; n++) {
            FencedStates y = Due.of(EdgeFramesTest.ROUND);
            y.claim(1, 1);
            y.mode(2);
            y.step(Math.max(1, n));
            int[] stays = new int[12];
            for (int what = 0; what < 12; what++) {
                stays[what] = y.is(what);
            }
            int bump = y.activity(-1);
            int highest = 1;
            for (int frame = 1; frame <= y.is(1); frame++) {
                highest = y.cube(frame, -1, 0) > 0 ? frame : highest;
            }
            String frames = frames(y);
            due.is("aim(0)", y.aim(0), true);
            due.is("TOP", y.is(1), highest);
            due.is("PHASE", y.is(2), 0);
            due.is("AT", y.is(3), -1);
            due.is("OBLIGATIONS", y.is(6), 0);
            due.is("obligation(NONE, 0)", y.obligation(-1, 0), 0);
            for (int what : new int[] {0, 4, 5, 7, 8, 9, 10, 11}) {
                due.is("is(" + what + ")", y.is(what), stays[what]);
            }
            due.is("BUMP", y.activity(-1), bump);
            due.is("CUBES stay", frames.startsWith(frames(y)), true);
            due.is("CLAIMS", y.about(2), 1);
            due.is("MODE", y.about(4), 2);
            y.step(500);
            due.is("PHASE", y.is(2), 4);
        }
    }

    private static void modeStays() {
        due.sentence(0, "MODE stays when a MACHINE comes.");
        FencedStates x = Due.of("letters 2;");
        for (int mode : new int[] {2, 1, 0}) {
            x.mode(mode);
            x.load(0);
            due.is("MODE", x.about(4), mode);
            x.drawn(5, 3);
            due.is("MODE", x.about(4), mode);
            x.undo();
            due.is("MODE", x.about(4), mode);
        }
    }
}

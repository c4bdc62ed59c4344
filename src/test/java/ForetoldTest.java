/** Promises 51 to 57: what is FORETOLD, mean, and THE IMAGE. */
final class ForetoldTest {
    static final String COUNTER = "letters 6;next a !a;next b a^b;next c a&b^c;next d a&b&c^d;"
        + "next e a&b&c&d^e;next f a&b&c&d&e^f;bad a&b&c&d&e&f;";

    private static final Due due = new Due();

    public static void main(String[] args) {
        foretold();
        quickest();
        bestMode();
        mean();
        image();
        due.end();
    }

    private static void foretold() {
        FencedStates x = Due.of(StepsTest.SAFE);
        int[] phases = {1, 1, 0, 2, 0, 1, 1, 1, 1, 0, 2, 3, 3};
        for (int n = 1; n <= phases.length; n++) {
            due.is("foretold(" + n + ")", x.foretold(n), phases[n - 1]);
        }
        due.is("foretold(500)", x.foretold(500), 3);
        int[] wrong = {0, -1, 501, Integer.MIN_VALUE};
        for (int n : wrong) {
            due.is("foretold(" + n + ")", x.foretold(n), -1);
        }
        due.is("till", x.till(), 12);
        due.is("nothing is changed", x.is(8), 0);
        due.is("nothing is changed", x.is(2), 0);
        due.is("about(1)", x.about(1), 1);
        x.step(5);
        due.is("till", x.till(), 7);
        x.step(7);
        due.is("till", x.till(), 0);
        due.is("foretold(1)", x.foretold(1), 3);
        FencedStates y = Due.of(COUNTER);
        due.is("more than 400", y.till(), -1);
        due.is("is(8)", y.is(8), 0);
        int left = 0;
        for (int n = 0; n < 40 && y.is(2) < 3; n++) {
            left = y.step(500);
        }
        y.undo();
        due.is("till", y.till(), left <= 400 ? left : -1);
        y.step(left > 400 ? left - 400 : 1);
        due.is("till 400 at most", y.till(), left > 400 ? 400 : left - 1);
    }

    private static void quickest() {
        FencedStates x = Due.of(StepsTest.ROUND);
        due.is("quickest", x.quickest(), 1);
        due.is("bestMode", x.bestMode(), 0);
        due.is("is(5)", x.is(5), 0);
        x.step(500);
        due.is("quickest", x.quickest(), 0);
        due.is("is(2)", x.is(2), 3);
        FencedStates y = Due.of(COUNTER);
        due.is("by none", y.quickest(), -1);
        due.is("by none", y.bestMode(), -1);
        FencedStates z = Due.of(COUNTER + "bad !a&b&c&d&e&f;bad a&b&c;bad b&c;");
        due.is("quickest", z.quickest(), 3);
    }

    /** Held against objects in which the MODE is told and the STEPS are gone. */
    private static void bestMode() {
        int[] seen = new int[3];
        for (int seed = 0; seed < 400; seed++) {
            FencedStates x = new FencedStates();
            x.drawn(seed, 5);
            int best = -1;
            int fewest = 401;
            for (int mode = 0; mode < 3; mode++) {
                FencedStates y = new FencedStates();
                y.mode(mode);
                y.drawn(seed, 5);
                int steps = y.step(500);
                if (steps < fewest) {
                    best = mode;
                    fewest = steps;
                }
            }
            x.mode(seed % 3);
            x.step(1 + seed % 50);
            due.is("bestMode of " + seed, x.bestMode(), best);
            seen[best]++;
        }
        due.is("not always 0", seen[1] + seen[2] > 0, true);
        // 400 STEPS by MODE 2, more by the others
        FencedStates edge = Due.of("letters 5;next a a^1;next b b^a&x;next c c^a&b&x;next d d^a&b&c&x;"
            + "next e e^a&b&c&d;bad a&b&c&d&e;");
        due.is("till by MODE 0", edge.till(), -1);
        due.is("quickest by MODE 0", edge.quickest(), -1);
        due.is("bestMode", edge.bestMode(), 2);
        edge.mode(2);
        due.is("till by MODE 2", edge.till(), 400);
        due.is("quickest by MODE 2", edge.quickest(), 0);
        due.is("step(500)", edge.step(500), 400);
        // THE AIM as it is
        FencedStates x = Due.of("letters 6;bad 0;" + COUNTER.substring(10));
        due.is("bestMode of none", x.bestMode(), 0);
        x.aim(1);
        due.is("bestMode of the second", x.bestMode(), -1);
    }

    private static void mean() {
        FencedStates x = Due.of(COUNTER);
        due.is("mean", x.mean(), 0L);
        for (int n = 0; n < 120; n++) {
            x.step(1 + n % 7);
            double mean = (double) x.is(9) / (double) x.is(8);
            due.is("mean", x.mean(), Double.doubleToLongBits(mean));
        }
        FencedStates y = new FencedStates();
        y.step(2);
        due.is("0 by 2", y.mean(), 0L);
    }

    private static void image() {
        FencedStates x = Due.of(StepsTest.SAFE);
        x.step(7);
        x.claim(1, 1);
        x.mode(1);
        due.is("image", x.image(), 1);
        Due.read(x, "bad a;");
        x.step(500);
        x.adopt();
        x.mode(2);
        x.load(1);
        Due.read(x, "bad");
        x.feed(0, 0, 0, 0, 0);
        due.is("back", x.back(), 1);
        look(x);
        due.is("the tape stays", x.about(3), 20);
        due.is("the FAULT stays", x.fault(1), 3);
        due.is("undo", x.undo(), 3);
        due.is("undo", x.undo(), 2);
        due.is("undo", x.undo(), 1);
        due.is("is(8)", x.is(8), 0);
        for (int n = 0; n < 30; n++) {
            x.mode(0);
        }
        due.is("back once more", x.back(), 1);
        look(x);
        for (int n = 0; n < 30; n++) {
            x.drawn(n, 6);
            x.step(20);
        }
        due.is("and once more", x.back(), 1);
        look(x);
        for (int n = 3; n >= 0; n--) {
            due.is("undo", x.undo(), n);
        }
        due.is("the MACHINE told at first", x.is(0), 3);
        due.is("undo", x.undo(), -1);
        due.is("and once more", x.back(), 1);
        look(x);
        due.is("undo", x.undo(), 3);
        due.is("about(4)", x.about(4), 0);
        x.step(500);
        due.is("image in PHASE 3", x.image(), 3);
        due.is("load", x.load(0), 2);
        due.is("back", x.back(), 3);
        due.is("fence(-1, 0)", x.fence(-1, 0), 2);
    }

    private static void look(FencedStates x) {
        int[] about = {1, 4, 1};
        for (int what = 0; what < 3; what++) {
            due.is("about(" + what + ")", x.about(what), about[what]);
        }
        due.is("about(4)", x.about(4), 1);
        due.is("is(8)", x.is(8), 7);
        due.is("is(6)", x.is(6), 2);
        due.is("obligation(0, 2)", x.obligation(0, 2), 3);
        due.is("cube(1, 0, 0)", x.cube(1, 0, 0), 2);
        due.is("activity(1)", x.activity(1), Float.floatToIntBits(1f));
        due.is("claimed(0, 0)", x.claimed(0, 0), 1);
        due.is("load(1)", x.load(1), -1);
    }
}

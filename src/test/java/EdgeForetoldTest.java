/** Each sentence on what is FORETOLD, and mean (promises 51 to 55), at its edges. */
final class EdgeForetoldTest {
    /** By MODES 0, 1, 2: 411, 423 and 400 STEPS to PHASE 4. */
    static final String IN_400 = "letters 5;next a a^1;next b b^a&x;next c c^a&b&x;next d d^a&b&c&x;next e e^a&b&c&d;"
        + "bad a&b&c&d&e;";
    /** By MODES 0, 1, 2: 409, 409 and 401. */
    static final String IN_401 = "letters 5;next a a^1;next b b^a&!x;next c c^a&b;next d d^a&b&c|x;"
        + "next e e^a&b&c&d&x;bad a&b&c&!d&e;";

    private static final Due due = new Due();

    public static void main(String[] args) {
        foretold();
        foretoldRefused();
        till();
        tillEdge();
        quickest();
        quickestOfLike();
        bestMode();
        bestModeAnew();
        mean();
        due.end();
    }

    private static void foretold() {
        due.sentence(51, "FORETOLD: PHASE behind n STEPS (1 .. 500), or as many as there are.");
        int[] want = {0, 1, 1, 0, 2, 0, 1, 1, 0, 2, 2, 0, 1, 1, 1, 1, 4};
        FencedStates x = Due.of(EdgeFramesTest.ROUND);
        for (int n = 1; n < 40; n++) {
            due.is("foretold(" + n + ")", x.foretold(n), want[Math.min(n, 16)]);
        }
        due.sentence(51, "FORETOLD: PHASE behind n STEPS (1 .. 500), or as many as there are.");
        due.is("foretold(499)", x.foretold(499), 4);
        due.is("foretold(500)", x.foretold(500), 4);
        due.is("nothing is gone", x.is(8), 0);
        x.step(16);
        due.is("foretold(1)", x.foretold(1), 4);
        due.is("foretold(500)", x.foretold(500), 4);
        FencedStates y = new FencedStates();
        due.is("foretold(1)", y.foretold(1), 2);
        y.step(2);
        due.is("foretold(1) in PHASE 3", y.foretold(1), 3);
        // behind 499, 500 and 501 STEPS of a long way
        FencedStates z = Due.of(ForetoldTest.COUNTER);
        int[] phases = new int[502];
        FencedStates gone = Due.of(ForetoldTest.COUNTER);
        for (int n = 0; n < 502; n++) {
            if (n % 200 == 199) {
                gone = Due.of(ForetoldTest.COUNTER);
                gone.step(n);
            }
            phases[n] = gone.is(2);
            gone.step(1);
        }
        int last = -1;
        for (int n = 1; n <= 500; n++) {
            if (phases[n] != last || n > 480) {
                due.is("foretold(" + n + ")", z.foretold(n), phases[n]);
                last = phases[n];
            }
            if (n % 100 == 0) {
                z = Due.of(ForetoldTest.COUNTER);
            }
        }
    }

    private static void foretoldRefused() {
        due.sentence(51, "NONE for others.");
        FencedStates[] all = {new FencedStates(), Due.of(EdgeFramesTest.ROUND), Due.of(StepsTest.SAFE)};
        all[1].step(500);
        all[2].step(500);
        for (FencedStates x : all) {
            for (int n : new int[] {0, -1, 501, 502}) {
                due.is("foretold(" + n + ")", x.foretold(n), -1);
            }
            for (int n : Due.OUTSIDE) {
                due.is("foretold(" + n + ")", x.foretold(n), -1);
            }
        }
    }

    private static void till() {
        due.sentence(52, "FORETOLD: how many STEPS there are till PHASE 3 or 4 (0: it is).");
        FencedStates x = Due.of(EdgeFramesTest.ROUND);
        for (int n = 16; n >= 0; n--) {
            due.is("till", x.till(), n);
            x.step(1);
        }
        due.is("till in PHASE 4", x.till(), 0);
        FencedStates y = Due.of(StepsTest.SAFE);
        for (int n = 12; n >= 0; n--) {
            due.is("till", y.till(), n);
            y.step(1);
        }
        due.is("till in PHASE 3", y.till(), 0);
    }

    private static void tillEdge() {
        due.sentence(52, "NONE: more than 400.");
        FencedStates x = Due.of(IN_400);
        x.mode(2);
        due.is("till of 400", x.till(), 400);
        x.step(1);
        due.is("till of 399", x.till(), 399);
        FencedStates y = Due.of(IN_401);
        y.mode(2);
        due.is("till of 401", y.till(), -1);
        y.step(1);
        due.is("till of 400", y.till(), 400);
        y.mode(0);
        due.is("till by another MODE", y.till(), -1);
        due.is("step(500)", y.step(500), 408);
        due.is("till", y.till(), 0);
    }

    private static void quickest() {
        due.sentence(53, "By which AIM there are fewest STEPS till PHASE 3 or 4, were it told now, of like ones the"
            + " lowest.");
        // never bad: 2 STEPS; all: 2; b: more
        FencedStates x = Due.of("bad b;bad 0;bad 1;bad b;");
        due.is("quickest", x.quickest(), 1);
        x.aim(2);
        due.is("quickest", x.quickest(), 1);
        x.step(500);
        due.is("PHASE", x.is(2), 4);
        due.is("quickest in PHASE 4", x.quickest(), 1);
        due.is("THE AIM stays", x.is(5), 2);
        due.is("PHASE stays", x.is(2), 4);
        due.sentence(53, "NONE: by none within 400.");
        FencedStates y = Due.of(IN_400);
        due.is("quickest by MODE 0, 411", y.quickest(), -1);
        y.mode(1);
        due.is("quickest by MODE 1, 423", y.quickest(), -1);
        y.mode(2);
        due.is("quickest by MODE 2, 400", y.quickest(), 0);
        FencedStates z = Due.of(IN_401);
        z.mode(2);
        due.is("quickest by MODE 2, 401", z.quickest(), -1);
        z.step(500);
        due.is("PHASE", z.is(2), 4);
        due.is("told now, FRAMES are as they are", z.quickest(), 0);
        FencedStates second = Due.of(IN_401 + "bad a&!a;");
        due.is("quickest of the second", second.quickest(), 1);
    }

    private static void quickestOfLike() {
        due.sentence(53, "of like ones the lowest");
        String[] bads = {"0", "0|0", "0&1", "!1"};
        for (int many = 1; many <= 4; many++) {
            StringBuilder text = new StringBuilder();
            for (int n = 0; n < many; n++) {
                text.append("bad ").append(bads[n]).append(';');
            }
            FencedStates x = Due.of(text.toString());
            due.is("quickest of " + many, x.quickest(), 0);
        }
        due.is("the last alone", Due.of("bad a;bad b;bad c;bad 0;").quickest(), 3);
        due.is("the last two", Due.of("bad a;bad b;bad 0;bad 0;").quickest(), 2);
        due.is("without any told", new FencedStates().quickest(), 0);
    }

    private static void bestMode() {
        due.sentence(54, "NONE: by none within 400.");
        due.is("bestMode: 401 at least", Due.of(IN_401).bestMode(), -1);
        due.is("bestMode: 400 by MODE 2 alone", Due.of(IN_400).bestMode(), 2);
        due.is("bestMode: thousands", Due.of(ForetoldTest.COUNTER).bestMode(), -1);
        due.sentence(54, "By which MODE there are fewest STEPS till PHASE 3 or 4, did the MACHINE come anew, with"
            + " THE AIM as it is, of like ones the lowest.");
        due.is("of like ones the lowest", new FencedStates().bestMode(), 0);
        FencedStates x = Due.of(EdgeFramesTest.ROUND);
        for (int mode = 0; mode < 3; mode++) {
            x.mode(mode);
            due.is("till", x.till(), 16);
            due.is("bestMode", x.bestMode(), 0);
            due.is("MODE stays", x.about(4), mode);
        }
    }

    private static void bestModeAnew() {
        // MODE, CUBES and ACTIVITIES as they are do not count
        FencedStates x = Due.of(IN_400);
        for (int n = 0; n < 12; n++) {
            x.mode(n % 3);
            due.is("bestMode behind " + x.is(8) + " STEPS", x.bestMode(), 2);
            x.step(60);
        }
        due.is("PHASE", x.is(2), 4);
        due.is("bestMode in PHASE 4", x.bestMode(), 2);
        // THE AIM as it is
        FencedStates y = Due.of(IN_401 + "bad a&!a;");
        due.is("bestMode of the first", y.bestMode(), -1);
        y.aim(1);
        due.is("bestMode of the second", y.bestMode(), 0);
        y.step(500);
        y.aim(0);
        due.is("bestMode of the first", y.bestMode(), -1);
    }

    private static void mean() {
        due.sentence(55, "ASKED by STEPS gone, divided as doubles (0 without any): its bits.");
        FencedStates x = Due.of(EdgeFramesTest.ROUND);
        due.is("mean of none", x.mean(), 0L);
        int[] asked = {0, 0, 2, 2, 2, 3, 3, 6, 6, 6, 7, 8, 8, 9, 10, 11, 11};
        for (int n = 1; n <= 16; n++) {
            x.step(1);
            due.is("ASKED", x.is(9), asked[n]);
            due.is("mean behind " + n, x.mean(), Double.doubleToLongBits((double) asked[n] / (double) n));
        }
        due.is("11 by 16", x.mean(), 0x3fe6000000000000L);
        x.load(0);
        due.is("another MACHINE has gone none", x.mean(), 0L);
    }
}

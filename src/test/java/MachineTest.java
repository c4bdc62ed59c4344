/** Promises 7 and 13 to 16: a MACHINE that is DRAWN, and what is shown of a MACHINE. */
final class MachineTest {
    private static final Due due = new Due();

    public static void main(String[] args) {
        drawn();
        comes();
        leads();
        of();
        due.end();
    }

    private static void drawn() {
        for (int letters = 1; letters <= 6; letters++) {
            for (int seed : new int[] {0, 1, 77, 9999}) {
                FencedStates x = new FencedStates();
                due.is("drawn", x.drawn(seed, letters), true);
                int states = 1 << letters;
                int v = seed;
                for (int state = 0; state < states; state++) {
                    for (int input = 0; input < 4; input++) {
                        v = (v * 773 + 641) % 31139;
                        due.is("successor", x.successor(state, input), v / 7 % states);
                    }
                    due.is("INIT", x.of(state, -1), state == 0);
                    due.is("AIM", x.of(state, 0), state == states - 1);
                }
                due.is("is(0)", x.is(0), letters);
                due.is("is(4)", x.is(4), 1);
                due.is("successor(states, 0)", x.successor(states, 0), -1);
            }
        }
        FencedStates x = new FencedStates();
        int[][] wrong = {{-1, 3}, {10000, 3}, {5, 0}, {5, 7}, {5, -1}, {Integer.MIN_VALUE, 3},
            {5, Integer.MAX_VALUE}, {5, Integer.MIN_VALUE}};
        for (int[] w : wrong) {
            due.is("drawn(" + w[0] + ", " + w[1] + ")", x.drawn(w[0], w[1]), false);
        }
        due.is("about(1)", x.about(1), 0);
        due.is("is(0)", x.is(0), 3);
    }

    /** A MACHINE that comes takes the place of that ahead; MODE stays. */
    private static void comes() {
        FencedStates x = Due.of("letters 2;bad a&b;bad a;next b a|b;");
        x.mode(2);
        x.aim(1);
        x.aim(0);
        x.step(10);
        x.claim(1, 1);
        due.is("is(1)", x.is(1), 2);
        due.is("load", x.load(0), 2);
        int[] want = {2, 1, 0, -1, 2, 0, 0, 0, 0, 0, 0, 0};
        for (int what = 0; what < want.length; what++) {
            due.is("is(" + what + ")", x.is(what), want[what]);
        }
        due.is("is(-1)", x.is(-1), -1);
        due.is("is(12)", x.is(12), -1);
        due.is("cube(1, -1, 0)", x.cube(1, -1, 0), 0);
        due.is("activity(0)", x.activity(0), 0);
        due.is("activity(1)", x.activity(1), 0);
        due.is("activity(-1)", x.activity(-1), Float.floatToIntBits(1f));
        due.is("claims", x.about(2), 0);
        due.is("mode", x.about(4), 2);
        x.aim(1);
        x.drawn(3, 2);
        due.is("is(5)", x.is(5), 0);
    }

    private static void leads() {
        FencedStates x = Due.of("letters 2;next a x;next b y;");
        for (int state = 0; state < 4; state++) {
            due.is("leads", x.leads(state, -1), 4);
            for (int i = 0; i < 4; i++) {
                due.is("leads", x.leads(state, i), i);
            }
            due.is("leads(.., 4)", x.leads(state, 4), -1);
            due.is("leads(.., -2)", x.leads(state, -2), -1);
            for (int input = 0; input < 4; input++) {
                due.is("successor", x.successor(state, input), input);
            }
        }
        due.is("leads(4, -1)", x.leads(4, -1), -1);
        due.is("leads(-1, -1)", x.leads(-1, -1), -1);
        due.is("successor(0, 4)", x.successor(0, 4), -1);
        due.is("successor(0, -1)", x.successor(0, -1), -1);
        due.is("successor(-1, 0)", x.successor(-1, 0), -1);
        FencedStates y = Due.of("letters 2;next b 0;next a 0;");
        due.is("leads(3, -1)", y.leads(3, -1), 0);
        due.is("leads(3, 0)", y.leads(3, 0), -1);
    }

    private static void of() {
        FencedStates x = Due.of("letters 6;init a|f;bad f;bad !f;");
        for (int state = 0; state < 64; state++) {
            due.is("INIT", x.of(state, -1), state >= 32 || state % 2 == 1);
            due.is("AIM 0", x.of(state, 0), state >= 32);
            due.is("AIM 1", x.of(state, 1), state < 32);
            due.is("AIM 2", x.of(state, 2), false);
            due.is("AIM -2", x.of(state, -2), false);
        }
        due.is("of(64, 0)", x.of(64, 0), false);
        due.is("of(-1, 1)", x.of(-1, 1), false);
        due.is("of(-32, 1)", x.of(-32, 1), false);
        FencedStates y = Due.of("letters 1;init 1;bad 1;");
        due.is("of(2, -1)", y.of(2, -1), false);
        due.is("of(2, 0)", y.of(2, 0), false);
    }
}

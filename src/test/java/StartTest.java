/** Promises 1 and 58: a new object, and about. */
final class StartTest {
    private static final Due due = new Due();

    public static void main(String[] args) {
        first();
        about();
        due.end();
    }

    private static void first() {
        FencedStates x = new FencedStates();
        due.is("NONE", FencedStates.NONE, -1);
        int[] want = {3, 1, 0, -1, 1, 0, 0, 0, 0, 0, 0, 0};
        for (int what = 0; what < want.length; what++) {
            due.is("is(" + what + ")", x.is(what), want[what]);
        }
        for (int state = 0; state < 8; state++) {
            for (int input = 0; input < 4; input++) {
                due.is("successor", x.successor(state, input), state);
            }
            due.is("of INIT", x.of(state, -1), state == 0);
            due.is("of the AIM", x.of(state, 0), false);
        }
        due.is("claimed(-1, 0)", x.claimed(-1, 0), 0);
        due.is("undo", x.undo(), -1);
        x.drawn(5, 6);
        x.step(1);
        x.claim(1, 1);
        Due.read(x, "");
        due.is("back to the first IMAGE", x.back(), 0);
        due.is("is(0)", x.is(0), 3);
        due.is("about(0)", x.about(0), 0);
        due.is("about(1)", x.about(1), 0);
        due.is("about(2)", x.about(2), 0);
        due.is("is(8)", x.is(8), 0);
    }

    private static void about() {
        FencedStates x = new FencedStates();
        for (int what = 0; what < 5; what++) {
            due.is("about(" + what + ")", x.about(what), 0);
        }
        due.is("about(5)", x.about(5), -2);
        due.is("about(-1)", x.about(-1), -2);
        Due.read(x, "bad a;");
        x.mode(2);
        x.claim(0, 0);
        x.claim(1, 0);
        x.feed(0, 0, 0, 0, 0);
        int[] want = {1, 3, 2, 20, 2};
        for (int what = 0; what < 5; what++) {
            due.is("about(" + what + ")", x.about(what), want[what]);
        }
    }
}

/** Promises 40 to 50: CLAIMS and JUDGEMENTS. */
final class ClaimsTest {
    private static final Due due = new Due();

    public static void main(String[] args) {
        claims();
        adopt();
        judgements();
        spare();
        loosen();
        wrongOnes();
        due.end();
    }

    private static void claims() {
        FencedStates x = new FencedStates();
        int[][] wrong = {{8, 0}, {-1, 0}, {1, 2}, {0, 1}, {7, 8}, {7, -1}, {Integer.MIN_VALUE, 0}};
        for (int[] w : wrong) {
            due.is("claim(" + w[0] + ", " + w[1] + ")", x.claim(w[0], w[1]), -1);
        }
        due.is("about(1)", x.about(1), 0);
        for (int n = 1; n <= 12; n++) {
            due.is("claim", x.claim(7, n % 8), n);
        }
        due.is("the 13th", x.claim(7, 1), -1);
        due.is("about(1)", x.about(1), 12);
        due.is("claimed(-1, 7)", x.claimed(-1, 7), 12);
        due.is("claimed(4, 0)", x.claimed(4, 0), 7);
        due.is("claimed(4, 1)", x.claimed(4, 1), 5);
        due.is("claimed(12, 0)", x.claimed(12, 0), -2);
        due.is("claimed(-2, 0)", x.claimed(-2, 0), -2);
        due.is("claimed(0, 2)", x.claimed(0, 2), -2);
        due.is("claimed(0, -1)", x.claimed(0, -1), -2);
        due.is("unclaim(12)", x.unclaim(12), -1);
        due.is("unclaim(-1)", x.unclaim(-1), -1);
        due.is("unclaim(4)", x.unclaim(4), 11);
        due.is("claimed(4, 1)", x.claimed(4, 1), 6);
        due.is("claimed(3, 1)", x.claimed(3, 1), 4);
        due.is("about(1)", x.about(1), 13);
        due.is("undo", x.undo(), 12);
        due.is("claimed(4, 1)", x.claimed(4, 1), 5);
    }

    private static void adopt() {
        FencedStates x = Due.of(StepsTest.SAFE);
        due.is("adopt", x.adopt(), -1);
        x.claim(3, 3);
        x.claim(3, 3);
        x.claim(3, 3);
        x.step(500);
        due.is("adopt", x.adopt(), 2);
        due.is("claimed(0, 0)", x.claimed(0, 0), 1);
        due.is("claimed(1, 1)", x.claimed(1, 1), 2);
        due.is("claimed(2, 1)", x.claimed(2, 1), -2);
        due.is("undo", x.undo(), 5);
        due.is("claimed(-1, 0)", x.claimed(-1, 0), 3);
        FencedStates y = Due.of("letters 6;bad 0;");
        for (int state = 1; state <= 13; state++) {
            due.is("bar", y.bar(63, state, 1), state);
        }
        y.step(500);
        due.is("is(2)", y.is(2), 3);
        due.is("fence(-1, 0)", y.fence(-1, 0), 13);
        due.is("adopt 13", y.adopt(), -1);
        due.is("fewest of 13", y.fewest(1), -1);
        due.is("chosen of 13", y.chosen(1), -1);
        due.is("spare of 13", y.spare(1), 13);
        due.is("inside of 13", y.inside(1), 51);
        y.undo();
        y.undo();
        y.step(500);
        due.is("adopt 12", y.adopt(), 12);
        due.is("fewest of 12", y.fewest(1), 0);
        due.is("chosen of 12", y.chosen(0), 0);
    }

    private static void judgements() {
        FencedStates x = Due.of(StepsTest.ROUND);
        judged(x, 3, 2);
        x.claim(3, 3);
        judged(x, 1, 3);
        x.undo();
        x.claim(3, 1);
        judged(x, 2, 0);
        due.is("spare", x.spare(0), -1);
        due.is("fewest", x.fewest(0), -1);
        due.is("chosen", x.chosen(0), -1);
        due.is("loosen", x.loosen(0), -1);
        due.is("inside", x.inside(0), 3);
        x.undo();
        x.claim(3, 2);
        judged(x, 0, -1);
        due.is("judged(2)", x.judged(2), 3);
        due.is("witness(2)", x.witness(2), 2);
        due.is("judged(1)", x.judged(1), -1);
        due.is("witness(1)", x.witness(1), -1);
        x.step(500);
        due.is("judged(1)", x.judged(1), 0);
        due.is("judged(2)", x.judged(2), 0);
        x.aim(1);
        judged(x, 3, 1);
        due.is("judged(2)", x.judged(2), 3);
        due.is("witness(2)", x.witness(2), 1);
        x.claim(0, 0);
        judged(x, 1, 3);
    }

    private static void judged(FencedStates x, int judgement, int witness) {
        due.is("judged(0)", x.judged(0), judgement);
        due.is("witness(0)", x.witness(0), witness);
    }

    private static void spare() {
        FencedStates x = Due.of("bad a;");
        x.claim(1, 1);
        x.claim(3, 1);
        x.claim(3, 3);
        due.is("spare", x.spare(0), 1);
        due.is("fewest", x.fewest(0), 1);
        due.is("chosen", x.chosen(0), 1);
        due.is("inside", x.inside(0), 4);
        x.unclaim(0);
        x.claim(5, 1);
        x.claim(5, 5);
        due.is("spare", x.spare(0), 2);
        due.is("fewest", x.fewest(0), 2);
        due.is("chosen", x.chosen(0), 3);
        due.is("claims stay", x.about(2), 4);
        FencedStates y = Due.of(StepsTest.SAFE);
        y.step(500);
        due.is("spare(1)", y.spare(1), 1);
        due.is("fewest(1)", y.fewest(1), 1);
        due.is("chosen(1)", y.chosen(1), 1);
        due.is("inside(1)", y.inside(1), 1);
        // 2 and 3 alone are led into from 1
        y.claim(2, 2);
        y.claim(1, 1);
        due.is("spare", y.spare(0), 1);
        due.is("fewest", y.fewest(0), 1);
        due.is("chosen", y.chosen(0), 2);
        // 12 of which 10 are needed, then 11 of which 9 are
        FencedStates z = Due.of("letters 6;bad f&!e|f&e&!d&!c;");
        for (int n = 0; n < 12; n++) {
            due.is("claim", z.claim(62, n < 8 ? 32 + 2 * n : 48 + 2 * (n - 8)), n + 1);
        }
        due.is("spare", z.spare(0), 2);
        due.is("fewest", z.fewest(0), 10);
        due.is("chosen", z.chosen(0), 1023);
        z.undo();
        z.undo();
        z.claim(60, 48);
        due.is("spare", z.spare(0), 2);
        due.is("fewest", z.fewest(0), 9);
        due.is("chosen", z.chosen(0), 255 + 1024);
    }

    private static void loosen() {
        FencedStates x = Due.of("bad a;");
        x.claim(7, 7);
        x.claim(1, 1);
        due.is("loosen(0)", x.loosen(0), 4);
        due.is("claimed(0, 0)", x.claimed(0, 0), 4);
        due.is("claimed(0, 1)", x.claimed(0, 1), 4);
        due.is("loosen(1)", x.loosen(1), 1);
        due.is("about(1)", x.about(1), 5);
        due.is("loosen(2)", x.loosen(2), -1);
        due.is("loosen(-1)", x.loosen(-1), -1);
        x.undo();
        x.undo();
        due.is("claimed(0, 0)", x.claimed(0, 0), 7);
        // in their ORDER: a has an ACTIVITY, so that it is last
        x.step(2);
        due.is("activity(0)", x.activity(0), Float.floatToIntBits(1f));
        due.is("loosen(0)", x.loosen(0), 1);
        x.undo();
        x.mode(2);
        due.is("loosen(0)", x.loosen(0), 4);
    }

    private static void wrongOnes() {
        FencedStates x = new FencedStates();
        int[] wrong = {-1, 3, Integer.MAX_VALUE, Integer.MIN_VALUE};
        for (int what : wrong) {
            due.is("judged", x.judged(what), -1);
            due.is("witness", x.witness(what), -1);
            due.is("spare", x.spare(what), -1);
            due.is("fewest", x.fewest(what), -1);
            due.is("chosen", x.chosen(what), -1);
            due.is("inside", x.inside(what), -1);
        }
        for (int what = 1; what <= 2; what++) {
            due.is("spare", x.spare(what), -1);
            due.is("fewest", x.fewest(what), -1);
            due.is("chosen", x.chosen(what), -1);
            due.is("inside", x.inside(what), -1);
        }
        due.is("judged(2)", x.judged(2), 0);
    }
}

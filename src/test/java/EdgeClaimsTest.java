/** Each sentence on CLAIMS and JUDGEMENTS (promises 40 to 50), at its edges. */
final class EdgeClaimsTest {
    private static final Due due = new Due();

    public static void main(String[] args) {
        claim();
        claimRefused();
        adopt();
        aboveTheOthers();
        unclaim();
        loosen();
        loosenRefused();
        claimed();
        judgements();
        judgedOfWhat();
        witness();
        spare();
        fewest();
        fewestOfLike();
        inside();
        othersOfAll();
        due.end();
    }

    private static FencedStates safe() {
        FencedStates x = Due.of(StepsTest.SAFE);
        x.step(500);
        due.is("PHASE", x.is(2), 3);
        return x;
    }

    private static void claim() {
        due.sentence(40, "A CLAIM is told: how many there are.");
        FencedStates x = new FencedStates();
        int[][] cubes = {{0, 0}, {7, 7}, {7, 0}, {1, 1}, {1, 0}, {4, 4}, {6, 2}, {7, 7}, {0, 0}, {5, 1}, {3, 3}, {2, 2}};
        for (int i = 0; i < 12; i++) {
            due.is("claim", x.claim(cubes[i][0], cubes[i][1]), i + 1);
        }
        for (int i = 0; i < 12; i++) {
            due.is("claimed(" + i + ", 0)", x.claimed(i, 0), cubes[i][0]);
            due.is("claimed(" + i + ", 1)", x.claimed(i, 1), cubes[i][1]);
        }
        due.sentence(0, "CUBES, 12 at most, in order (at first none).");
        due.is("the 13th", x.claim(7, 7), -1);
        due.is("the 13th", x.claim(0, 0), -1);
        due.is("CLAIMS", x.about(2), 12);
        due.is("taken back", x.about(1), 12);
        x.unclaim(11);
        due.is("the 12th again", x.claim(6, 6), 12);
        due.is("claimed(11, 0)", x.claimed(11, 0), 6);
        for (int letters = 1; letters <= 6; letters++) {
            int all = (1 << letters) - 1;
            FencedStates y = Due.of("letters " + letters + ";");
            due.is("claim(" + all + ", " + all + ")", y.claim(all, all), 1);
            due.is("claim(" + (all + 1) + ", 0)", y.claim(all + 1, 0), -1);
        }
        FencedStates z = Due.of(EdgeFramesTest.ROUND);
        for (int n = 0; n < 12; n++) {
            due.is("in PHASE " + z.is(2), z.claim(1, 1), n + 1);
            z.step(n < 10 ? 1 : 500);
        }
        due.is("in PHASE 3", safe().claim(1, 1), 1);
    }

    private static void claimRefused() {
        due.sentence(40, "NONE for others, and if there are 12.");
        FencedStates x = new FencedStates();
        int[][] wrong = {{8, 0}, {8, 8}, {-1, 0}, {-1, -1}, {0, 1}, {1, 2}, {1, 3}, {6, 1}, {7, 8}, {7, 9}, {7, -1}, {7, -8}};
        for (int[] w : wrong) {
            due.is("claim(" + w[0] + ", " + w[1] + ")", x.claim(w[0], w[1]), -1);
        }
        for (int n : Due.OUTSIDE) {
            due.is("claim(" + n + ", 0)", x.claim(n, 0), -1);
            due.is("claim(7, " + n + ")", x.claim(7, n), -1);
            due.is("claim(" + n + ", " + n + ")", x.claim(n, n), -1);
        }
        due.is("CLAIMS", x.about(2), 0);
        due.is("taken back", x.about(1), 0);
    }

    private static FencedStates fenced(int many) {
        FencedStates x = Due.of("letters 4;");
        for (int n = 1; n <= many; n++) {
            x.bar(15, n, 1);
        }
        x.step(500);
        due.is("PHASE", x.is(2), 3);
        due.is("fence(NONE, 0)", x.fence(-1, 0), many);
        return x;
    }

    private static void adopt() {
        for (int many : new int[] {0, 1, 11, 12, 13, 15}) {
            FencedStates x = fenced(many);
            x.claim(1, 1);
            x.claim(2, 2);
            int back = x.about(1);
            due.sentence(41, "CLAIMS are all CUBES of THE FENCE: how many.");
            if (many <= 12) {
                due.is("adopt of " + many, x.adopt(), many);
                due.is("CLAIMS", x.about(2), many);
                for (int i = 0; i < many; i++) {
                    due.is("claimed(" + i + ", 0)", x.claimed(i, 0), 15);
                    due.is("claimed(" + i + ", 1)", x.claimed(i, 1), i + 1);
                }
                due.is("claimed(" + many + ", 0)", x.claimed(many, 0), -2);
                due.is("taken back", x.about(1), back + 1);
            } else {
                due.sentence(41, "NONE: it is not PHASE 3, or there are more than 12.");
                due.is("adopt of " + many, x.adopt(), -1);
                due.is("CLAIMS", x.about(2), 2);
                due.is("claimed(0, 0)", x.claimed(0, 0), 1);
                due.is("taken back", x.about(1), back);
            }
        }
        FencedStates y = Due.of(EdgeFramesTest.ROUND);
        for (int n = 0; n <= 16; n++) {
            due.is("adopt in PHASE " + y.is(2), y.adopt(), -1);
            y.step(1);
        }
        FencedStates z = fenced(3);
        z.aim(0);
        due.is("adopt in PHASE 0 again", z.adopt(), -1);
    }

    /** 16 CUBES of FRAME 1 that can't move, and two that do: these alone are THE FENCE. */
    private static void aboveTheOthers() {
        due.sentence(41, "CLAIMS are all CUBES of THE FENCE: how many.");
        FencedStates x = Due.of("letters 6;next a a|f;bad a&!b&!c&!d&!e&!f;");
        for (int n = 0; n < 16; n++) {
            due.is("bar", x.bar(63, 33 + 2 * n, 1), n + 1);
        }
        due.is("bar", x.bar(63, 1, 1), 17);
        due.is("bar", x.bar(63, 2, 1), 18);
        due.is("step(500)", x.step(500), 5);
        due.is("PHASE", x.is(2), 3);
        due.is("cube(1, NONE, 0)", x.cube(1, -1, 0), 16);
        due.is("fence(NONE, 0)", x.fence(-1, 0), 2);
        due.is("fence(0, 1)", x.fence(0, 1), 1);
        due.is("fence(1, 1)", x.fence(1, 1), 2);
        due.is("fence(2, 1)", x.fence(2, 1), -2);
        due.is("judged(1)", x.judged(1), 0);
        due.is("judged(2)", x.judged(2), 2);
        due.is("witness(2)", x.witness(2), 32);
        due.is("inside(1)", x.inside(1), 62);
        due.is("spare(1)", x.spare(1), 1);
        due.is("fewest(1)", x.fewest(1), 1);
        due.is("chosen(1)", x.chosen(1), 1);
        due.is("adopt", x.adopt(), 2);
        due.is("claimed(0, 1)", x.claimed(0, 1), 1);
        due.is("claimed(1, 1)", x.claimed(1, 1), 2);
        due.is("claimed(2, 1)", x.claimed(2, 1), -2);
    }

    private static void unclaim() {
        due.sentence(42, "The i-th CLAIM is dropped: how many there are.");
        for (int i = 0; i < 12; i++) {
            FencedStates x = Due.of("letters 4;");
            for (int n = 0; n < 12; n++) {
                x.claim(15, n);
            }
            due.is("unclaim(" + i + ")", x.unclaim(i), 11);
            for (int n = 0; n < 11; n++) {
                due.is("claimed(" + n + ", 1)", x.claimed(n, 1), n < i ? n : n + 1);
            }
            due.is("claimed(11, 1)", x.claimed(11, 1), -2);
            due.sentence(42, "NONE: there is none such.");
            due.is("unclaim(11)", x.unclaim(11), -1);
            due.is("unclaim(-1)", x.unclaim(-1), -1);
            due.is("CLAIMS", x.about(2), 11);
        }
        FencedStates x = new FencedStates();
        due.is("unclaim(0)", x.unclaim(0), -1);
        due.is("unclaim(-1)", x.unclaim(-1), -1);
        x.claim(1, 1);
        for (int n : Due.OUTSIDE) {
            due.is("unclaim(" + n + ")", x.unclaim(n), -1);
        }
        due.is("unclaim(1)", x.unclaim(1), -1);
        due.is("unclaim(0)", x.unclaim(0), 0);
        due.is("unclaim(0)", x.unclaim(0), -1);
        due.is("taken back", x.about(1), 2);
    }

    private static void loosen() {
        due.sentence(43, "The i-th CLAIM is LOOSENED: its MASK.");
        // without THE AIM any LETTER can be dropped, if one is left that keeps INIT out
        FencedStates x = Due.of("letters 6;");
        x.claim(63, 63);
        x.claim(63, 32);
        due.is("loosen(0)", x.loosen(0), 32);
        due.is("claimed(0, 0)", x.claimed(0, 0), 32);
        due.is("claimed(0, 1)", x.claimed(0, 1), 32);
        due.is("loosen(1)", x.loosen(1), 32);
        due.is("claimed(1, 1)", x.claimed(1, 1), 32);
        due.is("loosen(1) once more", x.loosen(1), 32);
        due.is("each is a STEP that can be taken back", x.about(1), 6);
        FencedStates none = Due.of("init 0;");
        none.claim(7, 5);
        due.is("all LETTERS are dropped", none.loosen(0), 0);
        due.is("claimed(0, 1)", none.claimed(0, 1), 0);
        due.sentence(0, "LETTERS of it in their ORDER: each is dropped, if THE JUDGEMENT of CLAIMS is 0 yet, with it"
            + " as it is then.");
        FencedStates y = Due.of("letters 2;bad a&b;next b a|b;");
        y.claim(2, 2);
        y.claim(1, 1);
        due.is("judged(0)", y.judged(0), 0);
        due.is("loosen(0)", y.loosen(0), 2);
        due.is("loosen(1)", y.loosen(1), 1);
        FencedStates z = Due.of("bad a&!b;");
        z.claim(7, 1);
        due.is("THE AIM is not in it", z.judged(0), 3);
        z.claim(7, 5);
        due.is("a has to stay, as INIT is 0", z.loosen(0), 1);
    }

    private static void loosenRefused() {
        due.sentence(43, "NONE: THE JUDGEMENT of CLAIMS is not 0, and for others.");
        FencedStates x = Due.of("bad a;");
        due.is("loosen(0) of none", x.loosen(0), -1);
        x.claim(1, 1);
        for (int i : new int[] {1, 2, -1}) {
            due.is("loosen(" + i + ")", x.loosen(i), -1);
        }
        for (int i : Due.OUTSIDE) {
            due.is("loosen(" + i + ")", x.loosen(i), -1);
        }
        due.is("taken back", x.about(1), 2);
        due.is("loosen(0)", x.loosen(0), 1);
        x.claim(7, 0);
        due.is("judged(0)", x.judged(0), 1);
        due.is("loosen(0) by 1", x.loosen(0), -1);
        FencedStates y = Due.of("letters 2;bad a&b;next b a|b;");
        y.claim(3, 3);
        due.is("judged(0)", y.judged(0), 2);
        due.is("loosen(0) by 2", y.loosen(0), -1);
        FencedStates z = Due.of("bad a;");
        z.claim(3, 3);
        due.is("judged(0)", z.judged(0), 3);
        due.is("loosen(0) by 3", z.loosen(0), -1);
        due.is("claimed(0, 0)", z.claimed(0, 0), 3);
    }

    private static void claimed() {
        due.sentence(44, "CLAIMS: how many (i NONE); the i-th: 0 MASK, 1 BITS.");
        FencedStates x = new FencedStates();
        due.is("claimed(NONE, 0)", x.claimed(-1, 0), 0);
        due.sentence(44, "-2 if there is none such, and for others.");
        due.is("claimed(0, 0)", x.claimed(0, 0), -2);
        due.is("claimed(0, 1)", x.claimed(0, 1), -2);
        x.claim(5, 4);
        due.is("claimed(NONE, 0)", x.claimed(-1, 0), 1);
        due.is("claimed(0, 0)", x.claimed(0, 0), 5);
        due.is("claimed(0, 1)", x.claimed(0, 1), 4);
        due.is("claimed(0, 2)", x.claimed(0, 2), -2);
        due.is("claimed(0, -1)", x.claimed(0, -1), -2);
        due.is("claimed(1, 0)", x.claimed(1, 0), -2);
        due.is("claimed(-2, 0)", x.claimed(-2, 0), -2);
        for (int n : Due.OUTSIDE) {
            due.is("claimed(" + n + ", 0)", x.claimed(n, 0), -2);
            due.is("claimed(0, " + n + ")", x.claimed(0, n), -2);
        }
        x.unclaim(0);
        due.is("claimed(0, 0)", x.claimed(0, 0), -2);
    }

    private static void judged(FencedStates x, int judgement, int witness) {
        due.is("judged(0)", x.judged(0), judgement);
        due.is("witness(0)", x.witness(0), witness);
        due.is("spare(0)", x.spare(0) == -1, judgement != 0);
        due.is("fewest(0)", x.fewest(0) == -1, judgement != 0);
        due.is("chosen(0)", x.chosen(0) == -1, judgement != 0);
    }

    private static void judgements() {
        due.sentence(0, "1 a STATE of INIT is in one; else 2 a STATE in none has a SUCCESSOR in one; else 3 a STATE"
            + " of THE AIM is in none; else 0.");
        // 0 and 5 are of INIT; 1 goes to 3, 2 to 6; 3, 6 and 7 are bad
        FencedStates x = Due.of("init !a&!b&!c|a&!b&c;bad b&(a|c);next b a&!c|b;next c b&!a|c;");
        due.is("successor(1, 0)", x.successor(1, 0), 3);
        due.is("successor(2, 0)", x.successor(2, 0), 6);
        judged(x, 3, 3);
        x.claim(7, 7);
        judged(x, 3, 3);
        x.claim(7, 6);
        judged(x, 2, 2);
        x.claim(7, 5);
        judged(x, 1, 5);
        x.claim(7, 0);
        judged(x, 1, 0);
        x.unclaim(3);
        x.unclaim(2);
        x.claim(7, 2);
        judged(x, 3, 3);
        x.claim(7, 3);
        judged(x, 2, 1);
        x.claim(7, 1);
        judged(x, 0, -1);
        due.is("inside(0)", x.inside(0), 3);
        // two that lead in: the lowest
        x.unclaim(4);
        x.unclaim(2);
        judged(x, 2, 1);
        FencedStates none = new FencedStates();
        judged(none, 0, -1);
        FencedStates all = Due.of("letters 6;init 0;bad 1;");
        judged(all, 3, 0);
        all.claim(0, 0);
        judged(all, 0, -1);
        FencedStates last = Due.of("letters 6;init a&b&c&d&e&f;bad a&b&c&d&e&f;");
        judged(last, 3, 63);
        last.claim(63, 63);
        judged(last, 1, 63);
    }

    private static void judgedOfWhat() {
        due.sentence(45, "THE JUDGEMENT (0 .. 3): of CLAIMS (what 0), of THE FENCE (1; NONE but in PHASE 3), of"
            + " CUBES of FRAMES from 1 on (2).");
        FencedStates x = Due.of(StepsTest.SAFE);
        // CLAIMS keep out nothing, so that what is bad is in none; CUBES of FRAMES change
        int[] frames = {3, 3, 2, 2, 2, 2, 2, 2, 0, 0, 0, 0, 0};
        int[] witness = {3, 3, 1, 1, 1, 1, 1, 1, -1, -1, -1, -1, -1};
        for (int n = 0; n <= 12; n++) {
            due.is("judged(0) behind " + n, x.judged(0), 3);
            due.is("judged(1) behind " + n, x.judged(1), n == 12 ? 0 : -1);
            due.is("witness(1) behind " + n, x.witness(1), -1);
            due.is("judged(2) behind " + n, x.judged(2), frames[n]);
            due.is("witness(2) behind " + n, x.witness(2), witness[n]);
            x.step(1);
        }
        x.aim(0);
        due.is("judged(1)", x.judged(1), -1);
        due.sentence(45, "NONE for others.");
        FencedStates y = safe();
        for (int what : new int[] {3, 4, -1}) {
            due.is("judged(" + what + ")", y.judged(what), -1);
        }
        for (int what : Due.OUTSIDE) {
            due.is("judged(" + what + ")", y.judged(what), -1);
        }
        due.sentence(45, "of CUBES of FRAMES from 1 on (2)");
        // a CUBE of FRAME 1 that is below THE FENCE counts in 2 alone
        FencedStates z = new FencedStates();
        z.drawn(44, 2);
        z.step(11);
        due.is("judged(1)", z.judged(1), 0);
        due.is("inside(1)", z.inside(1), 3);
        due.is("judged(2)", z.judged(2) > 0, true);
    }

    private static void witness() {
        due.sentence(46, "The lowest STATE by which THE JUDGEMENT is so (in 2: the one that leads in).");
        FencedStates x = Due.of("letters 6;init f&e;bad a;");
        due.is("witness(0)", x.witness(0), 1);
        x.claim(1, 1);
        due.is("witness(0) is the lowest of INIT in it", x.witness(0), 49);
        x.undo();
        x.claim(63, 1);
        due.is("judged(0)", x.judged(0), 3);
        due.is("witness(0)", x.witness(0), 3);
        FencedStates y = Due.of("letters 6;next a 1;next b 1;next c 1;next d 1;next e 1;next f 1;");
        y.claim(63, 63);
        due.is("judged(0)", y.judged(0), 2);
        due.is("witness(0)", y.witness(0), 0);
        y.claim(1, 0);
        due.is("judged(0)", y.judged(0), 1);
        due.is("witness(0)", y.witness(0), 0);
        FencedStates z = Due.of("letters 6;init 0;next a 1;next b 1;next c 1;next d 1;next e 1;next f 1;");
        z.claim(1, 0);
        z.claim(63, 63);
        due.is("witness(0)", z.witness(0), 1);
        due.sentence(46, "NONE: it is 0, and as judged().");
        FencedStates safe = safe();
        due.is("witness(1)", safe.witness(1), -1);
        due.is("witness(2)", safe.witness(2), -1);
        due.is("witness(0)", safe.witness(0), 3);
        due.is("witness(3)", safe.witness(3), -1);
        due.is("witness(-1)", safe.witness(-1), -1);
        FencedStates open = Due.of("bad a;");
        due.is("witness(1) in PHASE 0", open.witness(1), -1);
        for (int what : Due.OUTSIDE) {
            due.is("witness(" + what + ")", open.witness(what), -1);
        }
    }

    private static void claims(FencedStates x, int... cubes) {
        while (x.about(2) > 0) {
            x.unclaim(0);
        }
        for (int cube : cubes) {
            x.claim(cube / 10, cube % 10);
        }
    }

    private static void spare() {
        due.sentence(0, "TO SPARE: of CUBES of which THE JUDGEMENT is 0, one by one from the first on, each is left"
            + " out, if THE JUDGEMENT of the others (without those left out already) is 0 yet: how many are left out.");
        FencedStates x = Due.of("bad a;");
        // a is a b and a without b
        int[][] rows = {{11}, {11, 11}, {11, 11, 11}, {33, 31}, {11, 33, 31}, {33, 31, 11}, {33, 11, 31}, {33, 31, 33},
            {11, 22}, {22, 11, 22}, {77, 11}, {33, 31, 77}};
        int[] spare = {0, 1, 2, 0, 1, 2, 2, 1, 1, 2, 1, 1};
        int[] chosen = {1, 1, 1, 3, 1, 4, 2, 3, 1, 2, 2, 3};
        for (int n = 0; n < rows.length; n++) {
            claims(x, rows[n]);
            due.is("judged(0) of row " + n, x.judged(0), 0);
            due.is("spare(0) of row " + n, x.spare(0), spare[n]);
            due.is("chosen(0) of row " + n, x.chosen(0), chosen[n]);
            due.is("fewest(0) of row " + n, x.fewest(0), Integer.bitCount(chosen[n]));
            due.is("CLAIMS stay", x.about(2), rows[n].length);
        }
        FencedStates y = new FencedStates();
        due.is("spare(0) of none", y.spare(0), 0);
        for (int n = 0; n < 12; n++) {
            y.claim(1, 1);
        }
        due.is("spare(0) of 12 where none is needed", y.spare(0), 12);
        due.sentence(47, "TO SPARE: of CLAIMS (what 0), of THE FENCE (1).");
        due.is("spare(1) of 15", fenced(15).spare(1), 15);
        due.is("spare(1) of none", fenced(0).spare(1), 0);
        due.is("spare(1)", safe().spare(1), 1);
        due.sentence(47, "NONE: THE JUDGEMENT is not 0, and as judged(); 2, too.");
        claims(x, 33);
        due.is("spare(0)", x.spare(0), -1);
        due.is("spare(1) but in PHASE 3", x.spare(1), -1);
        claims(x, 11);
        due.is("spare(2)", x.spare(2), -1);
        due.is("spare(2)", safe().spare(2), -1);
        // one that is left out may not be what another one needs
        FencedStates z = Due.of("letters 2;next b a|b;");
        claims(z, 22, 11);
        due.is("b without a can't stand", z.spare(0), 2);
        claims(z, 11, 22);
        due.is("a is needed as long as b is there", z.spare(0), 1);
        due.is("none is needed", z.fewest(0), 0);
        due.is("none is needed", z.chosen(0), 0);
    }

    private static void fewest() {
        due.sentence(48, "NONE: THE JUDGEMENT is not 0, more than 12, and as judged(); 2, too.");
        for (int many : new int[] {0, 1, 11, 12, 13, 15}) {
            FencedStates x = fenced(many);
            due.is("fewest(1) of " + many, x.fewest(1), many <= 12 ? 0 : -1);
            due.is("chosen(1) of " + many, x.chosen(1), many <= 12 ? 0 : -1);
            due.is("fewest(2)", x.fewest(2), -1);
            due.is("chosen(2)", x.chosen(2), -1);
        }
        due.sentence(48, "FEWEST of CLAIMS (what 0), of THE FENCE (1): how many.");
        FencedStates fence = safe();
        fence.claim(1, 1);
        fence.claim(2, 2);
        due.is("fewest(1): a alone", fence.fewest(1), 1);
        due.is("fewest(0): a alone", fence.fewest(0), 1);
        due.sentence(49, "FEWEST: which (bits).");
        due.is("chosen(1)", fence.chosen(1), 1);
        fence.unclaim(0);
        fence.claim(1, 1);
        due.is("chosen(0)", fence.chosen(0), 2);
        due.sentence(49, "NONE as fewest().");
        FencedStates x = Due.of("bad a;");
        due.is("fewest(0)", x.fewest(0), -1);
        due.is("chosen(0)", x.chosen(0), -1);
        x.claim(1, 1);
        due.is("fewest(0)", x.fewest(0), 1);
        due.is("chosen(0)", x.chosen(0), 1);
        due.is("fewest(1)", x.fewest(1), -1);
        due.is("chosen(1)", x.chosen(1), -1);
        due.sentence(0, "FEWEST of CUBES of which THE JUDGEMENT is 0 (12 at most)");
        // each of 12 STATES of THE AIM is in one of 12
        FencedStates y = Due.of("letters 4;bad c|d;init !c&!d;");
        for (int n = 4; n < 16; n++) {
            y.claim(15, n);
        }
        due.is("fewest(0) of 12, all needed", y.fewest(0), 12);
        due.is("chosen(0)", y.chosen(0), 4095);
        due.is("spare(0)", y.spare(0), 0);
        y.unclaim(0);
        due.is("fewest(0) of 11", y.fewest(0), -1);
        y.claim(12, 4);
        due.is("fewest(0)", y.fewest(0), 9);
        due.is("chosen(0)", y.chosen(0), 4095 - 7);
    }

    private static void fewestOfLike() {
        due.sentence(0, "as few of them as can be of which it is 0 alone, of like many the set of the lowest number"
            + " (bit 0 the first).");
        FencedStates x = Due.of("bad a;");
        int[][] rows = {{33, 33, 31, 31}, {31, 33, 33, 31}, {22, 31, 33, 51, 55}, {55, 22, 51, 33, 31}, {77, 75, 31, 33, 11}};
        int[] chosen = {5, 3, 3, 5, 16};
        for (int n = 0; n < rows.length; n++) {
            claims(x, rows[n]);
            due.is("chosen(0) of row " + n, x.chosen(0), chosen[n]);
            due.is("fewest(0) of row " + n, x.fewest(0), Integer.bitCount(chosen[n]));
        }
        // 1 and 2 are bad, 3 goes to 1: wherever it stands, it is needed
        for (int first = 1; first <= 3; first++) {
            FencedStates z = Due.of("letters 2;bad a^b;next b b&!a;");
            for (int n = 0; n < 3; n++) {
                z.claim(3, (first - 1 + n) % 3 + 1);
            }
            due.is("chosen(0)", z.chosen(0), 7);
            due.is("fewest(0)", z.fewest(0), 3);
            due.is("spare(0)", z.spare(0), 0);
        }
        FencedStates y = Due.of("bad a;");
        for (int n = 0; n < 12; n++) {
            y.claim(n < 10 ? 2 : 1, n < 10 ? 2 : 1);
        }
        due.is("chosen(0): the 11th of 12", y.chosen(0), 1024);
        y.unclaim(10);
        y.unclaim(0);
        y.claim(2, 2);
        y.claim(2, 2);
        due.is("chosen(0): the 10th of 12", y.chosen(0), 512);
    }

    private static void inside() {
        due.sentence(50, "How many STATES are in no CUBE of CLAIMS (what 0), of THE FENCE (1).");
        for (int letters = 1; letters <= 6; letters++) {
            FencedStates x = Due.of("letters " + letters + ";");
            int states = 1 << letters;
            due.is("inside(0) of none", x.inside(0), states);
            x.claim(1, 1);
            due.is("inside(0)", x.inside(0), states / 2);
            x.claim(states - 1, 0);
            due.is("inside(0), whatever THE JUDGEMENT", x.inside(0), states / 2 - 1);
            x.claim(0, 0);
            due.is("inside(0)", x.inside(0), 0);
            due.is("inside(1)", x.inside(1), -1);
            x.step(500);
            due.is("inside(1)", x.inside(1), states);
        }
        due.is("inside(1)", fenced(15).inside(1), 1);
        due.sentence(50, "NONE as judged(); 2, too.");
        due.is("inside(2)", fenced(1).inside(2), -1);
        due.is("inside(3)", fenced(1).inside(3), -1);
        due.is("inside(-1)", fenced(1).inside(-1), -1);
    }

    private static void othersOfAll() {
        due.sentence(50, "NONE as judged(); 2, too.");
        FencedStates x = fenced(1);
        int[] wrong = java.util.Arrays.copyOf(Due.OUTSIDE, Due.OUTSIDE.length + 3);
        wrong[wrong.length - 3] = -1;
        wrong[wrong.length - 2] = 3;
        wrong[wrong.length - 1] = 4;
        for (int what : wrong) {
            due.is("spare(" + what + ")", x.spare(what), -1);
            due.is("fewest(" + what + ")", x.fewest(what), -1);
            due.is("chosen(" + what + ")", x.chosen(what), -1);
            due.is("inside(" + what + ")", x.inside(what), -1);
            due.is("witness(" + what + ")", x.witness(what), -1);
        }
    }
}

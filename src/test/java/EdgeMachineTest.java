import java.util.function.IntFunction;

/** Each sentence on a MACHINE and what is shown of it (promises 1, 7, 8, 13 to 16, 58), at its edges. */
final class EdgeMachineTest {
    private static final Due due = new Due();

    public static void main(String[] args) {
        atFirst();
        letters();
        everySuccessor();
        states();
        inputs();
        aims();
        aimTold();
        drawn();
        drawnByHand();
        is();
        successor();
        leads();
        of();
        about();
        due.end();
    }

    private static void atFirst() {
        due.sentence(0, "At first: 3 LETTERS, each STATE is its own SUCCESSOR, INIT is STATE 0, one AIM: none.");
        plain(new FencedStates());
        due.sentence(1, "The MACHINE as told at first; THE IMAGE is this.");
        FencedStates fresh = new FencedStates();
        plain(fresh);
        due.is("the latest FAULT", fresh.fault(0), -1);
        FencedStates x = new FencedStates();
        x.drawn(77, 6);
        x.mode(2);
        x.claim(1, 1);
        x.step(20);
        Due.read(x, "bad a;");
        due.is("back", x.back(), 0);
        plain(x);
        for (int what : new int[] {0, 1, 2, 3, 4}) {
            due.is("about", x.about(what), 0);
        }
        due.is("undo", x.undo(), -1);
        due.is("load", x.load(0), -1);
    }

    private static void plain(FencedStates x) {
        due.is("LETTERS", x.is(0), 3);
        due.is("TOP", x.is(1), 1);
        due.is("PHASE", x.is(2), 0);
        due.is("AIMS", x.is(4), 1);
        due.is("THE AIM", x.is(5), 0);
        for (int what = 6; what < 12; what++) {
            due.is("is(" + what + ")", x.is(what), 0);
        }
        for (int s = 0; s < 8; s++) {
            for (int input = 0; input < 4; input++) {
                due.is("SUCCESSOR", x.successor(s, input), s);
            }
            due.is("INIT", x.of(s, -1), s == 0);
            due.is("AIM", x.of(s, 0), false);
        }
        due.is("CUBES", x.cube(1, -1, 0), 0);
        for (int letter = 0; letter < 3; letter++) {
            due.is("ACTIVITY", x.activity(letter), 0);
        }
        due.is("BUMP", x.activity(-1), 0x3f800000);
        due.is("CLAIMS", x.claimed(-1, 0), 0);
    }

    /** What calls take as a STATE: -1 or false stand for what is refused. */
    private static final String[] BY_STATE = {"successor", "leads", "of INIT", "of AIM", "within", "widened", "ahead",
        "distance", "distanceBy", "far"};

    private static IntFunction<Integer> byState(FencedStates x, String name) {
        switch (name) {
            case "successor":
                return s -> x.successor(s, 3);
            case "leads":
                return s -> x.leads(s, -1);
            case "of INIT":
                return s -> x.of(s, -1) ? 0 : -1;
            case "of AIM":
                return s -> x.of(s, 0) ? 0 : -1;
            case "within":
                return s -> x.within(s, 0) ? 0 : -1;
            case "widened":
                return s -> x.widened(s, 1);
            case "ahead":
                return s -> x.ahead(s, 0);
            case "distance":
                return s -> x.distance(s);
            case "distanceBy":
                return s -> x.distanceBy(s, 15);
            default:
                return s -> x.far(s);
        }
    }

    private static void letters() {
        due.sentence(0, "the first 1 to 6 of them;");
        for (int letters = 1; letters <= 6; letters++) {
            int states = 1 << letters;
            // from each STATE one goes to the one that has all LETTERS the other way round
            StringBuilder text = new StringBuilder("letters " + letters + ";init 1;bad 1;");
            for (char letter = 'a'; letter < 'a' + letters; letter++) {
                text.append("next ").append(letter).append(" !").append(letter).append(';');
            }
            for (String name : BY_STATE) {
                FencedStates x = Due.of(text.toString());
                FencedStates other = Due.of("letters " + letters + ";init 0;");
                boolean widens = name.equals("widened");
                IntFunction<Integer> call = byState(widens ? other : x, name);
                due.is("is(0)", x.is(0), letters);
                for (int s : new int[] {0, states - 1, states / 2}) {
                    int want = name.equals("successor") || name.equals("ahead") ? states - 1 - s
                        : name.equals("leads") ? 1 : 0;
                    due.is(name + " of " + s + " of " + states, call.apply(s), want);
                }
                for (int s : new int[] {-1, states, states + 1, 2 * states, 64, 65, 64 + states - 1, 128, -64}) {
                    due.is(name + " of " + s + " of " + states, call.apply(s), -1);
                }
                for (int s : Due.OUTSIDE) {
                    due.is(name + " of " + s + " of " + states, call.apply(s), -1);
                }
            }
        }
    }

    private static void everySuccessor() {
        due.sentence(0, "Each STATE and INPUT has a SUCCESSOR.");
        for (int letters = 1; letters <= 6; letters++) {
            FencedStates x = new FencedStates();
            x.drawn(letters * 1000, letters);
            int states = 1 << letters;
            for (int s = 0; s < states; s++) {
                for (int input = 0; input < 4; input++) {
                    int to = x.successor(s, input);
                    due.is("successor(" + s + ", " + input + ") is a STATE", to >= 0 && to < states, true);
                }
            }
        }
        due.sentence(0, "INIT: some STATES.");
        String[] inits = {"0", "1", "a", "a&b&c", "!a|c"};
        int[] many = {0, 8, 4, 1, 6};
        for (int n = 0; n < inits.length; n++) {
            FencedStates x = Due.of("init " + inits[n] + ";");
            due.is("wide(0)", x.wide(0), many[n]);
            due.is("reach(0)", x.reach(0), many[n]);
        }
    }

    private static void states() {
        due.sentence(0, "2 to the power of LETTERS less 1: bit 0 is a, bit 1 is b, and so on.");
        FencedStates x = Due.of("letters 6;init a;bad b;bad c;bad d;bad e;");
        FencedStates y = Due.of("letters 6;init f;bad a&b&c&d&e&f;bad !(a|b|c|d|e|f);");
        for (int s = 0; s < 64; s++) {
            due.is("a", x.of(s, -1), (s & 1) != 0);
            due.is("b", x.of(s, 0), (s & 2) != 0);
            due.is("c", x.of(s, 1), (s & 4) != 0);
            due.is("d", x.of(s, 2), (s & 8) != 0);
            due.is("e", x.of(s, 3), (s & 16) != 0);
            due.is("f", y.of(s, -1), (s & 32) != 0);
            due.is("all", y.of(s, 0), s == 63);
            due.is("none", y.of(s, 1), s == 0);
        }
        for (int letters = 1; letters <= 6; letters++) {
            FencedStates z = Due.of("letters " + letters + ";init 1;bad 1;");
            due.is("INIT", z.wide(0), 1 << letters);
            due.is("AIM", z.bad(1), 1 << letters);
        }
    }

    private static void inputs() {
        due.sentence(0, "3: bit 0 is x, bit 1 is y.");
        FencedStates x = Due.of("letters 1;next a x;");
        FencedStates y = Due.of("letters 1;next a y;");
        for (int input = 0; input < 4; input++) {
            due.is("x", x.successor(0, input), input & 1);
            due.is("y", y.successor(1, input), input >> 1);
        }
    }

    private static void aims() {
        due.sentence(0, "AIMS, 1 to 4, each some STATES;");
        String text = "bad a;bad !a;bad 0;bad 1;";
        for (int many = 0; many <= 4; many++) {
            FencedStates x = Due.of(text.substring(0, new int[] {0, 6, 13, 19, 25}[many]));
            int aims = Math.max(1, many);
            due.is("AIMS", x.is(4), aims);
            for (int aim = 0; aim < 4; aim++) {
                for (int s = 0; s < 8; s++) {
                    boolean is = aim < many && (aim == 0 && s % 2 == 1 || aim == 1 && s % 2 == 0 || aim == 3);
                    due.is("of(" + s + ", " + aim + ")", x.of(s, aim), is);
                }
            }
        }
    }

    private static void aimTold() {
        for (int many = 0; many <= 4; many++) {
            FencedStates x = Due.of("bad a;".repeat(many));
            int aims = Math.max(1, many);
            due.sentence(8, "THE AIM is told: true.");
            for (int aim = aims - 1; aim >= 0; aim--) {
                due.is("aim(" + aim + ")", x.aim(aim), true);
                due.is("is(5)", x.is(5), aim);
            }
            due.sentence(8, "False if there is none such.");
            int back = x.about(1);
            for (int aim : new int[] {aims, aims + 1, 4, -1}) {
                due.is("aim(" + aim + ")", x.aim(aim), false);
            }
            for (int aim : Due.OUTSIDE) {
                due.is("aim(" + aim + ")", x.aim(aim), false);
            }
            due.is("is(5)", x.is(5), 0);
            due.is("about(1)", x.about(1), back);
        }
    }

    private static void drawn() {
        due.sentence(7, "A MACHINE that is DRAWN comes (LETTERS 1 .. 6): true.");
        for (int letters = 1; letters <= 6; letters++) {
            for (int seed : new int[] {0, 9999}) {
                FencedStates x = new FencedStates();
                due.is("drawn(" + seed + ", " + letters + ")", x.drawn(seed, letters), true);
                due.is("LETTERS", x.is(0), letters);
                due.is("about(1)", x.about(1), 1);
                due.sentence(0, "INIT is STATE 0, one AIM: the last STATE.");
                due.is("AIMS", x.is(4), 1);
                due.is("INIT", x.wide(0), 1);
                due.is("INIT", x.of(0, -1), true);
                due.is("AIM", x.bad(1), 1);
                due.is("AIM", x.of((1 << letters) - 1, 0), true);
            }
        }
        due.sentence(7, "False for others.");
        FencedStates x = new FencedStates();
        for (int seed : new int[] {-1, 10000, 10001, Integer.MIN_VALUE, Integer.MAX_VALUE}) {
            due.is("drawn(" + seed + ", 3)", x.drawn(seed, 3), false);
        }
        for (int letters : new int[] {0, -1, 7, 8, 32, 33, Integer.MIN_VALUE, Integer.MAX_VALUE}) {
            due.is("drawn(0, " + letters + ")", x.drawn(0, letters), false);
            due.is("drawn(9999, " + letters + ")", x.drawn(9999, letters), false);
        }
        due.is("about(1)", x.about(1), 0);
        due.is("is(0)", x.is(0), 3);
    }

    /** The least and the largest SEED, worked out by hand. */
    private static void drawnByHand() {
        due.sentence(0, "9999) and LETTERS: x is SEED at first; for each STATE, by numbers, for each INPUT: x is (x"
            + " * 773 + 641) mod 31139, the SUCCESSOR is x / 7 mod how many STATES.");
        FencedStates x = new FencedStates();
        x.drawn(0, 6);
        // 641, then 496134 mod 31139 = 29049, then 22455518 mod 31139 = 4299, then 3323768 mod 31139 = 23034
        int[] first = {641 / 7 % 64, 29049 / 7 % 64, 4299 / 7 % 64, 23034 / 7 % 64};
        for (int input = 0; input < 4; input++) {
            due.is("SUCCESSOR", x.successor(0, input), first[input]);
        }
        // then 17805923 mod 31139 = 25554
        due.is("SUCCESSOR", x.successor(1, 0), 25554 / 7 % 64);
        x.drawn(9999, 6);
        // 7729868 mod 31139 = 7396
        due.is("SUCCESSOR", x.successor(0, 0), 7396 / 7 % 64);
        due.is("SUCCESSOR", x.successor(0, 1), (int) ((7396L * 773 + 641) % 31139 / 7 % 64));
        for (int letters = 1; letters <= 6; letters++) {
            x.drawn(9999, letters);
            long v = 9999;
            for (int n = 0; n < 4 << letters; n++) {
                v = (v * 773 + 641) % 31139;
                if (n < 8 || n >= (4 << letters) - 4) {
                    due.is("SUCCESSOR", x.successor(n / 4, n % 4), v / 7 % (1 << letters));
                }
            }
        }
    }

    private static void is() {
        due.sentence(13, "0 LETTERS, 1 TOP, 2 PHASE, 3 AT (NONE but in PHASE 2), 4 AIMS, 5 THE AIM, 6 OBLIGATIONS, 7"
            + " the latest NUMBER (0 without), and how many in all, of this MACHINE: 8 STEPS gone, 9 ASKED, 10"
            + " BARRED, 11 MOVED.");
        FencedStates x = Due.of(StepsTest.SAFE + "bad a&!b;");
        int[][] want = {
            // LETTERS, TOP, PHASE, AT, AIMS, THE AIM, OBLIGATIONS, NUMBER, STEPS, ASKED, BARRED, MOVED
            {2, 1, 0, -1, 2, 0, 0, 0, 0, 0, 0, 0},
            {2, 1, 1, -1, 2, 0, 1, 1, 1, 0, 0, 0},
            {2, 1, 1, -1, 2, 0, 0, 1, 2, 2, 1, 0},
            {2, 1, 0, -1, 2, 0, 0, 1, 3, 2, 1, 0},
            {2, 2, 2, 1, 2, 0, 0, 1, 4, 2, 1, 0},
            {2, 2, 0, -1, 2, 0, 0, 1, 5, 3, 1, 0},
            {2, 2, 1, -1, 2, 0, 1, 2, 6, 3, 1, 0},
            {2, 2, 1, -1, 2, 0, 2, 3, 7, 4, 1, 0},
            {2, 2, 1, -1, 2, 0, 1, 3, 8, 7, 2, 0},
            {2, 2, 1, -1, 2, 0, 0, 3, 9, 7, 2, 0},
            {2, 2, 0, -1, 2, 0, 0, 3, 10, 7, 2, 0},
            {2, 3, 2, 1, 2, 0, 0, 3, 11, 7, 2, 0},
            {2, 3, 3, -1, 2, 0, 0, 3, 12, 8, 2, 1}};
        for (int n = 0; n < want.length; n++) {
            for (int what = 0; what < 12; what++) {
                due.is("is(" + what + ") behind " + n + " STEPS", x.is(what), want[n][what]);
            }
            x.step(1);
        }
        x.aim(1);
        due.is("all STEPS of this MACHINE", x.is(8), 12);
        due.is("the latest NUMBER stays", x.is(7), 3);
        due.is("THE AIM", x.is(5), 1);
        due.sentence(13, "NONE for others.");
        for (int what : new int[] {-1, 12, 13}) {
            due.is("is(" + what + ")", x.is(what), -1);
        }
        for (int what : Due.OUTSIDE) {
            due.is("is(" + what + ")", x.is(what), -1);
        }
        due.sentence(0, "TOP 1, no CUBES, no OBLIGATIONS, NUMBERS from 1, all ACTIVITIES 0, BUMP 1, PHASE 0, THE AIM"
            + " the first, no CLAIMS.");
        x.step(1);
        x.claim(1, 1);
        x.load(0);
        for (int what = 0; what < 12; what++) {
            due.is("is(" + what + ")", x.is(what), want[0][what]);
        }
        due.is("CUBES", x.cube(1, -1, 0), 0);
        due.is("ACTIVITY", x.activity(0), 0);
        due.is("ACTIVITY", x.activity(1), 0);
        due.is("BUMP", x.activity(-1), 0x3f800000);
        due.is("CLAIMS", x.about(2), 0);
        x.step(1);
        due.is("NUMBER", x.obligation(0, 2), 1);
    }

    private static void successor() {
        due.sentence(14, "The SUCCESSOR.");
        FencedStates x = Due.of("letters 2;next a x;next b y;");
        for (int s = 0; s < 4; s++) {
            for (int input = 0; input < 4; input++) {
                due.is("successor", x.successor(s, input), input);
            }
            due.sentence(14, "NONE for others.");
            due.is("successor(" + s + ", -1)", x.successor(s, -1), -1);
            due.is("successor(" + s + ", 4)", x.successor(s, 4), -1);
            for (int input : Due.OUTSIDE) {
                due.is("successor(" + s + ", " + input + ")", x.successor(s, input), -1);
            }
        }
        due.is("successor(-1, 4)", x.successor(-1, 4), -1);
        due.is("successor(4, -4)", x.successor(4, -4), -1);
    }

    private static void leads() {
        due.sentence(15, "How many STATES have this one as a SUCCESSOR (i NONE); the i-th, by numbers.");
        // all lead to 0 by x, and stay without
        FencedStates x = Due.of("next a a&!x;next b b&!x;next c c&!x;");
        due.is("leads(0, NONE)", x.leads(0, -1), 8);
        for (int i = 0; i < 8; i++) {
            due.is("leads(0, " + i + ")", x.leads(0, i), i);
        }
        due.is("leads(7, NONE)", x.leads(7, -1), 1);
        due.is("leads(7, 0)", x.leads(7, 0), 7);
        due.sentence(15, "NONE: there is none, and for others.");
        due.is("leads(0, 8)", x.leads(0, 8), -1);
        due.is("leads(7, 1)", x.leads(7, 1), -1);
        for (int i : Due.OUTSIDE) {
            due.is("leads(0, " + i + ")", x.leads(0, i), -1);
        }
        due.is("leads(8, NONE)", x.leads(8, -1), -1);
        due.is("leads(8, 0)", x.leads(8, 0), -1);
        due.is("leads(-1, 0)", x.leads(-1, 0), -1);
        FencedStates y = Due.of("letters 6;next a 1;next b 1;next c 1;next d 1;next e 1;next f 1;");
        due.is("leads(63, NONE)", y.leads(63, -1), 64);
        due.is("leads(63, 63)", y.leads(63, 63), 63);
        due.is("leads(63, 64)", y.leads(63, 64), -1);
        due.is("leads(62, NONE)", y.leads(62, -1), 0);
        due.is("leads(62, 0)", y.leads(62, 0), -1);
    }

    private static void of() {
        due.sentence(16, "Whether a STATE is of INIT (NONE) or of an AIM.");
        FencedStates x = Due.of("letters 6;init f&e&d&c&b&a|!(a|b|c|d|e|f);bad f;bad !f;");
        for (int s = 0; s < 64; s++) {
            due.is("INIT", x.of(s, -1), s == 0 || s == 63);
            due.is("AIM 0", x.of(s, 0), s >= 32);
            due.is("AIM 1", x.of(s, 1), s < 32);
        }
        due.sentence(16, "False for others.");
        for (int s : new int[] {0, 63}) {
            for (int aim : new int[] {2, 3, 4}) {
                due.is("of(" + s + ", " + aim + ")", x.of(s, aim), false);
            }
            for (int aim : Due.OUTSIDE) {
                due.is("of(" + s + ", " + aim + ")", x.of(s, aim), false);
            }
        }
        for (int s : new int[] {-1, 64, 95, 127, -32}) {
            for (int aim = -1; aim < 2; aim++) {
                due.is("of(" + s + ", " + aim + ")", x.of(s, aim), false);
            }
        }
    }

    private static void about() {
        due.sentence(58, "0 TEXTS, 1 STEPS that can be taken back, 2 CLAIMS, 3 bytes of the tape, 4 MODE.");
        FencedStates x = new FencedStates();
        for (int n = 0; n < 4; n++) {
            due.is("TEXTS", x.about(0), n);
            x.text();
        }
        due.is("TEXTS", x.about(0), 4);
        for (int n = 0; n < 12; n++) {
            due.is("CLAIMS", x.about(2), n);
            due.is("taken back", x.about(1), n);
            x.claim(0, 0);
        }
        due.is("CLAIMS", x.about(2), 12);
        for (int n = 0; n <= 15; n++) {
            due.is("the tape", x.about(3), 20 * n);
            x.feed(0, 0, 0, 0, 0);
        }
        due.is("the tape", x.about(3), 300);
        for (int n = 0; n < 10; n++) {
            x.mode(n % 3);
            due.is("MODE", x.about(4), n % 3);
            due.is("taken back", x.about(1), Math.min(20, 13 + n));
        }
        due.sentence(58, "-2 for others.");
        due.is("about(5)", x.about(5), -2);
        due.is("about(-1)", x.about(-1), -2);
        for (int what : Due.OUTSIDE) {
            due.is("about(" + what + ")", x.about(what), -2);
        }
    }
}

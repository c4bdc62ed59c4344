import java.util.function.Consumer;

/** Each sentence on STEPS that are taken back and on THE IMAGE (promises 12, 56, 57), at its edges. */
final class EdgeBackTest {
    private static final Due due = new Due();

    public static void main(String[] args) {
        none();
        kinds();
        others();
        twenty();
        latestFirst();
        stays();
        image();
        imageOfAll();
        imageStays();
        due.end();
    }

    private static void none() {
        due.sentence(12, "NONE: there is none.");
        FencedStates x = new FencedStates();
        due.is("undo", x.undo(), -1);
        x.mode(1);
        due.is("undo", x.undo(), 0);
        due.is("undo", x.undo(), -1);
        due.is("undo", x.undo(), -1);
        due.is("about(1)", x.about(1), 0);
        x.mode(2);
        due.is("about(1)", x.about(1), 1);
    }

    /** THE AIM is a; b is claimed twice, which loosens; in PHASE 1 behind the second of two MACHINES. */
    private static void base(FencedStates x) {
        Due.read(x, "bad a;bad c;");
        x.load(0);
        x.mode(1);
        x.claim(7, 7);
        x.claim(1, 1);
        x.step(2);
    }

    private static void safe(FencedStates x) {
        base(x);
        x.step(500);
    }

    private static void kind(String name, Consumer<FencedStates> before, Consumer<FencedStates> call) {
        FencedStates x = Look.made(before);
        int back = x.about(1);
        call.accept(x);
        due.is(name + " can be taken back", x.about(1), back + 1);
        due.is(name + " is taken back", x.undo(), back);
        Look.alike(due, name + " and undo()", before, before.andThen(call).andThen(y -> y.undo()));
    }

    private static void kinds() {
        due.sentence(0, "STEPS that are taken back: a MACHINE that comes, an AIM or MODE told, STEPS gone"
            + " (together), a CUBE BARRED by hand, CLAIMS told, dropped, loosened, adopted");
        kind("load", EdgeBackTest::base, x -> x.load(0));
        kind("drawn", EdgeBackTest::base, x -> x.drawn(9999, 6));
        kind("aim", EdgeBackTest::base, x -> x.aim(1));
        kind("aim as it is", EdgeBackTest::base, x -> x.aim(0));
        kind("mode", EdgeBackTest::base, x -> x.mode(2));
        kind("mode as it is", EdgeBackTest::base, x -> x.mode(1));
        kind("step(1)", EdgeBackTest::base, x -> x.step(1));
        kind("step(500)", EdgeBackTest::base, x -> x.step(500));
        kind("bar", EdgeBackTest::base, x -> x.bar(4, 4, 1));
        kind("bar of what is there", EdgeBackTest::base, x -> x.bar(1, 1, 1));
        kind("claim", EdgeBackTest::base, x -> x.claim(0, 0));
        kind("unclaim", EdgeBackTest::base, x -> x.unclaim(0));
        kind("loosen", EdgeBackTest::base, x -> x.loosen(0));
        kind("loosen without a LETTER that is dropped", EdgeBackTest::base, x -> x.loosen(1));
        kind("adopt", EdgeBackTest::safe, x -> x.adopt());
        kind("load in PHASE 3", EdgeBackTest::safe, x -> x.load(0));
        kind("aim in PHASE 3", EdgeBackTest::safe, x -> x.aim(1));
    }

    private static void others() {
        FencedStates x = Look.made(EdgeBackTest::base);
        int back = x.about(1);
        x.feed(0, 0, 0, 0, 0);
        x.end(3);
        x.text();
        Due.read(x, "bad a;");
        x.image();
        x.till();
        x.quickest();
        x.bestMode();
        x.foretold(500);
        due.is("no STEPS that are taken back", x.about(1), back);
    }

    private static void twenty() {
        due.sentence(0, "the latest 20, the latest first");
        for (int many : new int[] {19, 20, 21, 22, 45}) {
            FencedStates x = new FencedStates();
            for (int n = 1; n <= many; n++) {
                due.is("about(1)", x.about(1), Math.min(20, n - 1));
                x.drawn(n, 3);
            }
            int can = Math.min(20, many);
            due.is("about(1)", x.about(1), can);
            for (int n = 1; n <= can; n++) {
                due.is("undo", x.undo(), can - n);
                int now = many - n;
                int first = (now * 773 + 641) % 31139 / 7 % 8;
                due.is("the MACHINE is that of " + now, x.successor(0, 0), now == 0 ? 0 : first);
            }
            due.is("undo", x.undo(), -1);
            due.is("undo", x.undo(), -1);
            x.mode(1);
            due.is("about(1)", x.about(1), 1);
            due.is("undo", x.undo(), 0);
        }
    }

    private static void latestFirst() {
        due.sentence(12, "The latest STEP is taken back: how many can be yet.");
        FencedStates x = new FencedStates();
        x.mode(1);
        x.claim(1, 1);
        x.bar(4, 4, 1);
        x.step(2);
        due.is("undo", x.undo(), 3);
        due.is("STEPS", x.is(8), 0);
        due.is("CUBES", x.cube(1, -1, 0), 1);
        due.is("undo", x.undo(), 2);
        due.is("CUBES", x.cube(1, -1, 0), 0);
        due.is("CLAIMS", x.about(2), 1);
        due.is("undo", x.undo(), 1);
        due.is("CLAIMS", x.about(2), 0);
        due.is("MODE", x.about(4), 1);
        x.mode(2);
        due.is("another one ahead of it", x.undo(), 1);
        due.is("MODE", x.about(4), 1);
        due.is("undo", x.undo(), 0);
        due.is("MODE", x.about(4), 0);
    }

    private static void stays() {
        due.sentence(0, "(all but TEXTS is as ahead of it)");
        FencedStates x = new FencedStates();
        x.mode(1);
        Due.read(x, "letters 2;");
        due.is("undo", x.undo(), 0);
        due.is("TEXTS", x.about(0), 1);
        due.is("load", x.load(0), 2);
        due.is("undo", x.undo(), 0);
        due.is("LETTERS", x.is(0), 3);
        due.is("load", x.load(0), 2);
    }

    private static void image() {
        due.sentence(56, "THE IMAGE is as all is now: PHASE.");
        FencedStates x = Due.of(EdgeFramesTest.ROUND);
        int[] phases = {0, 1, 1, 0, 2, 0, 1, 1, 0, 2, 2, 0, 1, 1, 1, 1, 4};
        for (int n = 0; n <= 16; n++) {
            due.is("image behind " + n, x.image(), phases[n]);
            due.is("back", x.back(), phases[n]);
            due.is("STEPS", x.is(8), n);
            x.step(1);
        }
        due.sentence(57, "BACK to THE IMAGE (it stays): PHASE.");
        FencedStates y = Due.of("");
        y.step(1);
        y.image();
        y.step(1);
        due.is("PHASE", y.is(2), 3);
        due.is("back", y.back(), 2);
        due.is("PHASE", y.is(2), 2);
        due.is("back ahead of any image", new FencedStates().back(), 0);
    }

    private static void imageOfAll() {
        due.sentence(0, "AN IMAGE: all as it is, but the tape and the latest FAULT.");
        FencedStates x = Look.made(EdgeBackTest::base);
        x.image();
        Due.read(x, "bad ?;");
        x.feed(0, 0, 0, 0, 0);
        x.end(7);
        x.back();
        due.is("the tape", x.about(3), 7);
        due.is("the latest FAULT", x.fault(0), 1);
        due.is("the latest FAULT", x.fault(1), 4);
        due.sentence(0, "BACK: all is so again.");
        for (int n = 0; n < 2; n++) {
            Consumer<FencedStates> told = n == 0 ? EdgeBackTest::base : EdgeBackTest::safe;
            Look.same(due, "back() behind much else", told, told.andThen(EdgeBackTest::muchElse), false);
            FencedStates y = Look.made(told);
            FencedStates z = Look.made(told.andThen(EdgeBackTest::muchElse));
            for (int what : new int[] {0, 1, 2, 4}) {
                due.is("about(" + what + ")", z.about(what), y.about(what));
            }
            int back = y.about(1);
            for (int k = 1; k <= back; k++) {
                Consumer<FencedStates> undone = Look.undone(k);
                Look.same(due, "back(), then " + k + " undo()", told.andThen(undone),
                    told.andThen(EdgeBackTest::muchElse).andThen(undone), false);
            }
            due.is("load(1)", z.load(1), -1);
        }
    }

    private static void muchElse(FencedStates x) {
        x.image();
        Due.read(x, "letters 1;");
        x.load(1);
        for (int n = 0; n < 25; n++) {
            x.claim(1, 1);
            x.mode(n % 3);
        }
        x.drawn(5, 6);
        x.step(100);
        x.back();
    }

    private static void imageStays() {
        due.sentence(57, "BACK to THE IMAGE (it stays): PHASE.");
        FencedStates x = Look.made(EdgeBackTest::base);
        x.image();
        for (int n = 0; n < 5; n++) {
            x.step(1 + n);
            x.aim(n % 2);
            x.bar(4, 4, 1);
            x.undo();
            x.undo();
            x.undo();
            x.undo();
            x.claim(1, 1);
            Due.read(x, "");
            due.is("back", x.back(), 1);
            due.is("STEPS", x.is(8), 2);
            due.is("CLAIMS", x.about(2), 2);
            due.is("TEXTS", x.about(0), 1);
            due.is("MODE", x.about(4), 1);
            due.is("taken back", x.about(1), 5);
        }
        x.mode(2);
        x.image();
        x.load(0);
        due.is("back to the later one", x.back(), 1);
        due.is("MODE", x.about(4), 2);
        due.is("undo", x.undo(), 5);
        due.is("MODE", x.about(4), 1);
    }
}

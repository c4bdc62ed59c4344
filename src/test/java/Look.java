import java.util.ArrayList;
import java.util.List;
import java.util.function.Consumer;
import java.util.function.ToLongFunction;

/**
 * Holds all that calls show of two objects against each other. An object is used for at most 512 calls, so
 * new ones are made and told the same again for some of the calls each.
 */
final class Look {
    private static final int AT_ONCE = 150;

    private final List<String> names = new ArrayList<>();
    private final List<ToLongFunction<FencedStates>> calls = new ArrayList<>();

    static FencedStates made(Consumer<FencedStates> told) {
        FencedStates x = new FencedStates();
        told.accept(x);
        return x;
    }

    static Consumer<FencedStates> undone(int times) {
        return x -> {
            for (int n = 0; n < times; n++) {
                x.undo();
            }
        };
    }

    /** All is shown alike, now, behind each undo(), behind back() and behind each load(). */
    static void alike(Due due, String name, Consumer<FencedStates> one, Consumer<FencedStates> other) {
        same(due, name, one, other, true);
        int back = made(one).about(1);
        due.is(name + ": what can be taken back", made(other).about(1), back);
        for (int n = 1; n <= back; n++) {
            same(due, name + ", then " + n + " undo()", one.andThen(undone(n)), other.andThen(undone(n)), true);
        }
        same(due, name + ", then back()", one.andThen(FencedStates::back), other.andThen(FencedStates::back), true);
        for (int text = 0; text < made(one).about(0); text++) {
            int which = text;
            same(due, name + ", then load(" + text + ")", one.andThen(x -> x.load(which)),
                other.andThen(x -> x.load(which)), true);
        }
    }

    /** All is shown alike now; with or without what about() and fault() show. */
    static void same(Due due, String name, Consumer<FencedStates> one, Consumer<FencedStates> other, boolean about) {
        Look look = new Look();
        look.askOf(made(one), made(other));
        if (about) {
            look.askAbout();
        }
        FencedStates x = null;
        FencedStates y = null;
        for (int n = 0; n < look.calls.size(); n++) {
            if (n % AT_ONCE == 0) {
                x = made(one);
                y = made(other);
            }
            long want = look.calls.get(n).applyAsLong(x);
            due.is(name + ": " + look.names.get(n), look.calls.get(n).applyAsLong(y), want);
        }
    }

    /** How many calls a look makes at an object, as each of them is shown by its own: for tests of the tests. */
    static List<ToLongFunction<FencedStates>> callsFor(FencedStates x) {
        Look look = new Look();
        look.askOf(x, x);
        look.askAbout();
        return look.calls;
    }

    private void ask(String name, ToLongFunction<FencedStates> call) {
        names.add(name);
        calls.add(call);
    }

    private void askAbout() {
        for (int what = -1; what <= 5; what++) {
            int w = what;
            ask("about(" + w + ")", x -> x.about(w));
        }
        ask("fault(0)", x -> x.fault(0));
        ask("fault(1)", x -> x.fault(1));
    }

    private void askOf(FencedStates one, FencedStates other) {
        int letters = Math.max(one.is(0), other.is(0));
        int top = Math.max(one.is(1), other.is(1));
        for (int what = -1; what <= 12; what++) {
            int w = what;
            ask("is(" + w + ")", x -> x.is(w));
        }
        askStates(1 << letters, top);
        askFrames(letters, top, Math.max(one.is(6), other.is(6)));
        askRest(letters);
    }

    private void askStates(int states, int top) {
        for (int state = 0; state < states; state++) {
            int s = state;
            for (int input = 0; input < 4; input++) {
                int i = input;
                ask("successor(" + s + ", " + i + ")", x -> x.successor(s, i));
            }
            for (int aim = -1; aim < 4; aim++) {
                int a = aim;
                ask("of(" + s + ", " + a + ")", x -> x.of(s, a) ? 1 : 0);
            }
            for (int frame = 0; frame <= top; frame++) {
                int f = frame;
                ask("within(" + s + ", " + f + ")", x -> x.within(s, f) ? 1 : 0);
            }
            ask("widened(" + s + ", " + top + ")", x -> x.widened(s, top));
            ask("leads(" + s + ", -1)", x -> x.leads(s, -1));
            ask("distance(" + s + ")", x -> x.distance(s));
            ask("distanceBy(" + s + ", 5)", x -> x.distanceBy(s, 5));
            ask("far(" + s + ")", x -> x.far(s));
            ask("ahead(" + s + ", " + top + ")", x -> x.ahead(s, top));
        }
    }

    private void askFrames(int letters, int top, int obligations) {
        for (int frame = 0; frame <= top + 1; frame++) {
            int f = frame;
            ask("wide(" + f + ")", x -> x.wide(f));
            ask("bad(" + f + ")", x -> x.bad(f));
            ask("weight(" + f + ")", x -> x.weight(f));
            ask("slack(" + f + ")", x -> x.slack(f));
            ask("cube(" + f + ", -1, 0)", x -> x.cube(f, -1, 0));
            ask("holds(1, 1, " + f + ")", x -> x.holds(1, 1, f) ? 1 : 0);
            for (int i = 0; i < 14; i++) {
                int n = i;
                ask("cube(" + f + ", " + n + ", 0)", x -> x.cube(f, n, 0));
                ask("cube(" + f + ", " + n + ", 1)", x -> x.cube(f, n, 1));
            }
        }
        for (int i = -1; i <= obligations; i++) {
            int n = i;
            for (int what = 0; what < 4; what++) {
                int w = what;
                ask("obligation(" + n + ", " + w + ")", x -> x.obligation(n, w));
            }
        }
        for (int letter = -1; letter <= letters; letter++) {
            int n = letter;
            ask("activity(" + n + ")", x -> x.activity(n));
            ask("order(" + n + ")", x -> x.order(n));
        }
    }

    private void askRest(int letters) {
        for (int i = -1; i < 14; i++) {
            int n = i;
            for (int what = 0; what < 2; what++) {
                int w = what;
                ask("trace(" + n + ", " + w + ")", x -> x.trace(n, w));
                ask("fence(" + n + ", " + w + ")", x -> x.fence(n, w));
                ask("claimed(" + n + ", " + w + ")", x -> x.claimed(n, w));
                ask("shortest(" + n + ", " + w + ")", x -> x.shortest(n, w));
            }
            ask("sought(" + n + ")", x -> x.sought(n));
            ask("doomed(" + n + ")", x -> x.doomed(n));
            ask("reach(" + n + ")", x -> x.reach(n));
        }
        for (int what = 0; what < 3; what++) {
            int w = what;
            ask("judged(" + w + ")", x -> x.judged(w));
            ask("witness(" + w + ")", x -> x.witness(w));
            ask("spare(" + w + ")", x -> x.spare(w));
            ask("fewest(" + w + ")", x -> x.fewest(w));
            ask("chosen(" + w + ")", x -> x.chosen(w));
            ask("inside(" + w + ")", x -> x.inside(w));
        }
        for (int n : new int[] {1, 2, 3, 5, 500}) {
            ask("foretold(" + n + ")", x -> x.foretold(n));
        }
        ask("detour()", FencedStates::detour);
        ask("nearest()", FencedStates::nearest);
        ask("till()", FencedStates::till);
        ask("quickest()", FencedStates::quickest);
        ask("bestMode()", FencedStates::bestMode);
        ask("mean()", FencedStates::mean);
    }
}

import java.util.function.ToLongFunction;

/** An object is used for at most 512 calls: the last of them is answered as the first ones are. */
final class LastCallTest {
    private static final int CALLS = 512;

    private static final Due due = new Due();

    private interface Told {
        void call(FencedStates x, int n);
    }

    public static void main(String[] args) {
        last("mode", (x, n) -> x.mode(n % 3), x -> x.undo(), 19);
        last("drawn", (x, n) -> x.drawn(n, 6), x -> x.successor(0, 0), (510 * 773 + 641) % 31139 / 7 % 64);
        last("feed", (x, n) -> x.feed(n, n, n, n, n), x -> x.end(300), 300);
        last("end", (x, n) -> x.end(0), x -> x.text(), 0);
        last("text", (x, n) -> x.text(), x -> x.load(3), 3);
        last("claim", (x, n) -> x.claim(7, n % 8), x -> x.unclaim(11), 11);
        last("image and back", (x, n) -> {
            if (n % 2 == 0) {
                x.image();
            } else {
                x.back();
            }
        }, x -> x.is(0), 3);
        last("step and undo", (x, n) -> {
            if (n % 2 == 0) {
                x.step(500);
            } else {
                x.undo();
            }
        }, x -> x.is(2), 3);
        last("bar", (x, n) -> x.bar(7, 1 + n % 7, 1), x -> x.cube(1, -1, 0), 7);
        last("aim", (x, n) -> x.aim(0), x -> x.step(2), 2);
        last("what is FORETOLD", (x, n) -> {
            switch (n % 4) {
                case 0 -> x.till();
                case 1 -> x.quickest();
                case 2 -> x.bestMode();
                default -> x.foretold(500);
            }
        }, x -> x.till(), 2);
        last("refused ones", (x, n) -> x.bar(n, -1, n), x -> x.about(1), 0);
        due.end();
    }

    private static void last(String name, Told told, ToLongFunction<FencedStates> call, long want) {
        FencedStates x = new FencedStates();
        for (int n = 0; n < CALLS - 1; n++) {
            told.call(x, n);
        }
        due.is("the last call behind " + name, call.applyAsLong(x), want);
    }
}

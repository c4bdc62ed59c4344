import java.lang.management.ManagementFactory;

/** All calls of one run live in one room: what 512 of the dearest calls make is measured, in bytes. */
final class RoomTest {
    /** 7.3 million fields and elements are 29 million bytes, were each an int; a good part of it stays free. */
    private static final long MOST = 12_000_000L;

    private static final Due due = new Due();
    private static final com.sun.management.ThreadMXBean BEAN =
        (com.sun.management.ThreadMXBean) ManagementFactory.getThreadMXBean();

    private interface Run {
        void call(FencedStates x, int n);
    }

    public static void main(String[] args) {
        measure("new objects", (x, n) -> new FencedStates());
        measure("drawn", (x, n) -> x.drawn(n, 6));
        measure("texts", (x, n) -> {
            switch (n % 4) {
                case 0 -> x.feed(0x6c657474, 0x65727320, 0x363b6261, 0x6420613b, 0x20202020);
                case 1 -> x.text();
                case 2 -> x.load(n % 5);
                default -> x.back();
            }
        });
        measure("cubes by hand", (x, n) -> {
            if (n == 0) {
                Due.read(x, "letters 6;init 0;");
                x.load(0);
            } else {
                cubeByHand(x, n);
            }
        });
        measure("cubes and images", (x, n) -> {
            if (n == 0) {
                Due.read(x, "letters 6;init 0;");
                x.load(0);
            } else if (n % 4 == 0) {
                x.image();
            } else if (n % 4 == 1) {
                x.quickest();
            } else {
                cubeByHand(x, n);
            }
        });
        measure("a long search", (x, n) -> {
            if (n == 0) {
                Due.read(x, ForetoldTest.COUNTER);
                x.load(0);
            } else if (n % 5 == 4) {
                x.undo();
            } else if (n % 5 == 3) {
                x.bestMode();
            } else {
                x.step(100);
            }
        });
        due.end();
    }

    /** CUBES of more and more LETTERS, so that none that came before lies in one that comes. */
    private static void cubeByHand(FencedStates x, int n) {
        int seen = 0;
        for (int letters = 1; letters <= 6; letters++) {
            for (int mask = 0; mask < 64; mask++) {
                if (Integer.bitCount(mask) != letters) {
                    continue;
                }
                for (int bits = 0; bits < 64; bits++) {
                    if ((bits & ~mask) == 0 && ++seen == n) {
                        due.is("bar", x.bar(mask, bits, 1) > 0, true);
                        return;
                    }
                }
            }
        }
    }

    private static void measure(String name, Run run) {
        long most = 0;
        // the first rounds make what the machine itself needs once
        for (int round = 0; round < 3; round++) {
            FencedStates x = new FencedStates();
            long before = BEAN.getThreadAllocatedBytes(Thread.currentThread().getId());
            for (int n = 0; n < 512; n++) {
                run.call(x, n);
            }
            most = BEAN.getThreadAllocatedBytes(Thread.currentThread().getId()) - before;
        }
        System.out.println(name + ": " + most + " bytes");
        due.is(name + " stays in its room", most <= MOST, true);
    }
}

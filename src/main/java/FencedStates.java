import java.util.Arrays;

/**
 * A machine of a few letters, and whether it ever comes to what is bad. Sets of STATES are longs,
 * a bit for each STATE; a CUBE is one int, MASK times 64 and BITS.
 */
public final class FencedStates {
    public static final int NONE = -1;

    private static final int NO_SUCH = -2;
    private static final int MOST_BYTES = 300;
    private static final int FED_BYTES = 20;
    private static final int MOST_TEXTS = 4;
    private static final int MOST_AIMS = 4;
    private static final int MOST_BACK = 20;
    private static final int MOST_CLAIMS = 12;
    private static final int MOST_STEPS = 500;
    private static final int MOST_TILL = 400;
    private static final int MOST_SOUGHT = 8;
    private static final int MOST_OPEN = 10;
    private static final int MOST_SEED = 9999;
    private static final int MOST_LETTERS = 6;
    private static final int MOST_STATES = 64;
    /** Each FRAME has more STATES WITHIN it than the one below, so that no way has nearly so many. */
    private static final int MOST_PATH = 2 * MOST_STATES;
    private static final int INPUTS = 4;
    private static final int ALL_INPUTS = 15;
    private static final int MODES = 3;

    private static final int SEEKS = 0;
    private static final int OBLIGES = 1;
    private static final int PUSHES = 2;
    private static final int SAFE = 3;
    private static final int UNSAFE = 4;

    private static final int OF_CLAIMS = 0;
    private static final int OF_FENCE = 1;
    private static final int OF_FRAMES = 2;

    /** For each LETTER the STATES in which it is 1. */
    private static final long[] LETTER_SETS = {
        0xAAAAAAAAAAAAAAAAL, 0xCCCCCCCCCCCCCCCCL, 0xF0F0F0F0F0F0F0F0L,
        0xFF00FF00FF00FF00L, 0xFFFF0000FFFF0000L, 0xFFFFFFFF00000000L
    };

    private final byte[] tape;
    private int tapeSize;
    private boolean anyRead;
    private int latestFault;
    private int latestPlace;
    private final Reader reader;
    private final World world;
    private final World kept;
    private final Search trial;
    private final CubeRow sparing;
    private final Chooser chooser;
    private final int[] path;
    private final long[] fars;

    public FencedStates() {
        tape = new byte[MOST_BYTES];
        latestPlace = NONE;
        reader = new Reader();
        Machine first = Machine.plain();
        world = new World(first);
        kept = new World(first);
        trial = new Search(first);
        sparing = new CubeRow();
        chooser = new Chooser();
        path = new int[MOST_PATH];
        fars = new long[MOST_STATES];
    }

    // ---- the tape and its TEXTS

    public int feed(int a, int b, int c, int d, int e) {
        if (tapeSize + FED_BYTES > MOST_BYTES) {
            return NONE;
        }
        putBytes(a);
        putBytes(b);
        putBytes(c);
        putBytes(d);
        putBytes(e);
        return tapeSize;
    }

    private void putBytes(int four) {
        for (int shift = 24; shift >= 0 && tapeSize < MOST_BYTES; shift -= 8) {
            tape[tapeSize] = (byte) (four >>> shift);
            tapeSize++;
        }
    }

    public int end(int n) {
        if (n < 0 || n > tapeSize) {
            return NONE;
        }
        tapeSize = n;
        return n;
    }

    public int text() {
        if (world.textCount >= MOST_TEXTS) {
            return NONE;
        }
        reader.readAll(tape, tapeSize);
        tapeSize = 0;
        anyRead = true;
        latestFault = reader.fault;
        latestPlace = reader.faultPlace;
        if (latestFault != 0) {
            return NONE;
        }
        return world.addText(reader.machine());
    }

    public int fault(int what) {
        if (!anyRead) {
            return NONE;
        }
        switch (what) {
            case 0:
                return latestFault;
            case 1:
                return latestPlace;
            default:
                return NONE;
        }
    }

    // ---- a MACHINE that comes

    public int load(int text) {
        Machine machine = world.textAt(text);
        if (machine == null) {
            return NONE;
        }
        world.remember();
        world.search.begin(machine);
        return machine.letters;
    }

    public boolean drawn(int seed, int letters) {
        if (seed < 0 || seed > MOST_SEED || letters < 1 || letters > MOST_LETTERS) {
            return false;
        }
        world.remember();
        world.search.begin(Machine.bySeed(seed, letters));
        return true;
    }

    // ---- what is told, STEPS, and what is taken back

    public boolean aim(int which) {
        if (!world.search.machine.hasAim(which)) {
            return false;
        }
        world.remember();
        world.search.tellAim(which);
        return true;
    }

    public boolean mode(int n) {
        if (n < 0 || n >= MODES) {
            return false;
        }
        world.remember();
        world.search.mode = n;
        return true;
    }

    public int bar(int mask, int bits, int frame) {
        Search search = world.search;
        if (!search.machine.hasCube(mask, bits) || !search.canBar(Cubes.cubeOf(mask, bits), frame)) {
            return NONE;
        }
        world.remember();
        search.frames.putLast(frame, Cubes.cubeOf(mask, bits));
        return search.frames.countOf(frame);
    }

    public int step(int n) {
        if (n < 1 || n > MOST_STEPS || world.search.isOver()) {
            return NONE;
        }
        world.remember();
        return world.search.goOn(n);
    }

    public int undo() {
        return world.takeBack();
    }

    // ---- what is shown

    public int is(int what) {
        Search search = world.search;
        switch (what) {
            case 0:
                return search.machine.letters;
            case 1:
                return search.top;
            case 2:
                return search.phase;
            case 3:
                return search.phase == PUSHES ? search.at : NONE;
            case 4:
                return search.machine.aims.length;
            case 5:
                return search.aim;
            case 6:
                return search.obligations.size;
            case 7:
                return search.latest;
            case 8:
                return search.gone;
            case 9:
                return search.asked;
            case 10:
                return search.barred;
            case 11:
                return search.moved;
            default:
                return NONE;
        }
    }

    public int successor(int state, int input) {
        Machine machine = world.search.machine;
        if (!machine.hasState(state) || input < 0 || input >= INPUTS) {
            return NONE;
        }
        return machine.next(state, input);
    }

    public int leads(int state, int i) {
        Machine machine = world.search.machine;
        if (!machine.hasState(state)) {
            return NONE;
        }
        return countOrState(machine.leadingTo(state), i);
    }

    /** How many STATES a set has (i NONE), or the i-th of them. */
    private static int countOrState(long set, int i) {
        return i == NONE ? Long.bitCount(set) : Sets.stateAt(set, i);
    }

    public boolean of(int state, int aim) {
        Machine machine = world.search.machine;
        if (!machine.hasState(state)) {
            return false;
        }
        if (aim == NONE) {
            return Sets.has(machine.init, state);
        }
        return machine.hasAim(aim) && Sets.has(machine.aims[aim], state);
    }

    public boolean within(int state, int frame) {
        Search search = world.search;
        return search.machine.hasState(state) && search.hasFrame(frame)
            && Sets.has(search.statesWithin(frame), state);
    }

    public int wide(int frame) {
        Search search = world.search;
        return search.hasFrame(frame) ? Long.bitCount(search.statesWithin(frame)) : NONE;
    }

    public int bad(int frame) {
        Search search = world.search;
        return search.hasFrame(frame) ? Long.bitCount(search.badWithin(frame)) : NONE;
    }

    public int sought(int i) {
        return countOrState(world.search.soughtStates(), i);
    }

    public int weight(int frame) {
        Search search = world.search;
        if (!search.hasCubeFrame(frame)) {
            return NONE;
        }
        return search.frames.lettersOf(frame);
    }

    public int cube(int frame, int i, int what) {
        Search search = world.search;
        if (!search.hasCubeFrame(frame)) {
            return NO_SUCH;
        }
        CubeRow frames = search.frames;
        int start = frames.startOf(frame);
        return cubePart(frames, start, start + frames.countOf(frame), i, what);
    }

    /** Of the CUBES of a row from one place up to another: how many (i NONE), or a part of the i-th. */
    private static int cubePart(CubeRow row, int from, int to, int i, int what) {
        if (i == NONE) {
            return to - from;
        }
        if (i < 0 || i >= to - from) {
            return NO_SUCH;
        }
        switch (what) {
            case 0:
                return Cubes.maskOf(row.cubeAt(from + i));
            case 1:
                return Cubes.bitsOf(row.cubeAt(from + i));
            default:
                return NO_SUCH;
        }
    }

    public int obligation(int i, int what) {
        Obligations obligations = world.search.obligations;
        if (i == NONE) {
            return obligations.size;
        }
        if (i < 0 || i >= obligations.size || what < 0 || what >= Obligations.PARTS) {
            return NO_SUCH;
        }
        return obligations.part(i, what);
    }

    public int trace(int i, int what) {
        Search search = world.search;
        int size = search.phase == UNSAFE ? search.obligations.fillChain(path) : 0;
        return pathPart(size, i, what);
    }

    /** Of the STATES that lie in path: how many (i NONE), or a part of the i-th. */
    private int pathPart(int size, int i, int what) {
        if (i == NONE) {
            return size;
        }
        if (i < 0 || i >= size || i >= path.length || what < 0 || what > 1) {
            return NO_SUCH;
        }
        if (what == 0) {
            return path[i];
        }
        if (i + 1 >= size || i + 1 >= path.length) {
            return NONE;
        }
        return world.search.machine.inputBetween(path[i], path[i + 1]);
    }

    public int fence(int i, int what) {
        Search search = world.search;
        int to = search.frames.size;
        int from = search.phase == SAFE ? search.fenceStart() : to;
        return cubePart(search.frames, from, to, i, what);
    }

    public int activity(int letter) {
        Search search = world.search;
        if (letter == NONE) {
            return FloatBits.ofFloat(search.activities.bump);
        }
        if (letter < 0 || letter >= search.machine.letters) {
            return NO_SUCH;
        }
        return FloatBits.ofFloat(search.activities.valueOf(letter));
    }

    public int order(int i) {
        Search search = world.search;
        return search.activities.letterAt(i, search.mode, search.machine.letters);
    }

    public boolean holds(int mask, int bits, int frame) {
        Search search = world.search;
        return search.machine.hasCube(mask, bits) && search.hasFrame(frame)
            && search.keepsOut(Cubes.cubeOf(mask, bits), search.statesWithin(frame));
    }

    public int widened(int state, int level) {
        Search search = world.search;
        if (!search.machine.hasState(state) || !search.hasCubeFrame(level)) {
            return NONE;
        }
        if (Sets.has(search.machine.init, state) || search.lowestAhead(state, level - 1) != NONE) {
            return NONE;
        }
        return search.widen(state, level, false);
    }

    public int ahead(int state, int frame) {
        Search search = world.search;
        if (!search.machine.hasState(state) || !search.hasFrame(frame)) {
            return NONE;
        }
        return search.lowestAhead(state, frame);
    }

    // ---- DISTANCE, FAR and THE SHORTEST

    public int distance(int state) {
        return distanceBy(state, ALL_INPUTS);
    }

    public int distanceBy(int state, int inputs) {
        Machine machine = world.search.machine;
        if (!machine.hasState(state) || inputs < 1 || inputs > ALL_INPUTS) {
            return NONE;
        }
        return machine.stepsTo(1L << state, inputs);
    }

    public int far(int state) {
        Search search = world.search;
        if (!search.machine.hasState(state)) {
            return NONE;
        }
        return search.machine.stepsBetween(1L << state, search.aimStates());
    }

    public int doomed(int n) {
        Search search = world.search;
        return n < 0 ? NONE : Long.bitCount(search.machine.comingTo(search.aimStates(), n));
    }

    public int shortest(int i, int what) {
        Search search = world.search;
        return pathPart(search.machine.fillShortest(search.aimStates(), fars, path), i, what);
    }

    public int detour() {
        Search search = world.search;
        if (search.phase != UNSAFE) {
            return NONE;
        }
        int traced = search.obligations.fillChain(path);
        return traced - search.machine.fillShortest(search.aimStates(), fars, path);
    }

    public int nearest() {
        Search search = world.search;
        return search.machine.stepsTo(search.aimStates(), ALL_INPUTS);
    }

    public int reach(int n) {
        return n < 0 ? NONE : Long.bitCount(world.search.machine.comeToBy(n));
    }

    public int slack(int frame) {
        Search search = world.search;
        if (!search.hasFrame(frame)) {
            return NONE;
        }
        return Long.bitCount(search.statesWithin(frame) & ~search.machine.comeToBy(frame));
    }

    // ---- CLAIMS and JUDGEMENTS

    public int claim(int mask, int bits) {
        Search search = world.search;
        if (!search.machine.hasCube(mask, bits) || search.claims.size >= MOST_CLAIMS) {
            return NONE;
        }
        world.remember();
        search.claims.append(Cubes.cubeOf(mask, bits));
        return search.claims.size;
    }

    public int adopt() {
        Search search = world.search;
        if (search.phase != SAFE || search.frames.size - search.fenceStart() > MOST_CLAIMS) {
            return NONE;
        }
        world.remember();
        search.claims.takeFrom(search.frames, search.fenceStart());
        return search.claims.size;
    }

    public int unclaim(int i) {
        CubeRow claims = world.search.claims;
        if (i < 0 || i >= claims.size) {
            return NONE;
        }
        world.remember();
        claims.removeAt(i);
        return claims.size;
    }

    public int loosen(int i) {
        Search search = world.search;
        if (i < 0 || i >= search.claims.size || judged(OF_CLAIMS) != 0) {
            return NONE;
        }
        world.remember();
        return Cubes.maskOf(search.loosenClaim(i));
    }

    public int claimed(int i, int what) {
        CubeRow claims = world.search.claims;
        return cubePart(claims, 0, claims.size, i, what);
    }

    public int judged(int what) {
        CubeRow row = rowOf(what);
        return row == null ? NONE : world.search.judgementOf(row.unionFrom(startIn(what)));
    }

    /** The row that has the CUBES which are judged, or null if there are none such. */
    private CubeRow rowOf(int what) {
        Search search = world.search;
        switch (what) {
            case OF_CLAIMS:
                return search.claims;
            case OF_FENCE:
                return search.phase == SAFE ? search.frames : null;
            case OF_FRAMES:
                return search.frames;
            default:
                return null;
        }
    }

    private int startIn(int what) {
        return what == OF_FENCE ? world.search.fenceStart() : 0;
    }

    public int witness(int what) {
        CubeRow row = rowOf(what);
        return row == null ? NONE : world.search.witnessOf(row.unionFrom(startIn(what)));
    }

    public int spare(int what) {
        if (what == OF_FRAMES || judged(what) != 0) {
            return NONE;
        }
        sparing.takeFrom(rowOf(what), startIn(what));
        return leaveOut(sparing);
    }

    /** Leaves out all that can be, one by one from the first on: how many. */
    private int leaveOut(CubeRow row) {
        int most = row.size;
        int at = 0;
        for (int n = 0; n < most; n++) {
            if (world.search.judgementOf(row.unionBut(at)) == 0) {
                row.removeAt(at);
            } else {
                at++;
            }
        }
        return most - row.size;
    }

    public int fewest(int what) {
        int set = chosen(what);
        return set == NONE ? NONE : Integer.bitCount(set);
    }

    public int chosen(int what) {
        if (what == OF_FRAMES || judged(what) != 0) {
            return NONE;
        }
        return chooser.choose(rowOf(what), startIn(what), world.search);
    }

    public int inside(int what) {
        CubeRow row = rowOf(what);
        if (what == OF_FRAMES || row == null) {
            return NONE;
        }
        return Long.bitCount(world.search.machine.all & ~row.unionFrom(startIn(what)));
    }

    // ---- what is FORETOLD

    public int foretold(int n) {
        if (n < 1 || n > MOST_STEPS) {
            return NONE;
        }
        trial.become(world.search);
        trial.goOn(n);
        return trial.phase;
    }

    public int till() {
        trial.become(world.search);
        int steps = trial.goOn(MOST_TILL);
        return trial.isOver() ? steps : NONE;
    }

    public int quickest() {
        int best = NONE;
        int fewestSteps = MOST_TILL + 1;
        for (int which = 0; which < world.search.machine.aims.length; which++) {
            trial.become(world.search);
            trial.tellAim(which);
            int steps = trial.goOn(MOST_TILL);
            if (trial.isOver() && steps < fewestSteps) {
                best = which;
                fewestSteps = steps;
            }
        }
        return best;
    }

    public int bestMode() {
        int best = NONE;
        int fewestSteps = MOST_TILL + 1;
        for (int n = 0; n < MODES; n++) {
            trial.begin(world.search.machine);
            trial.tellAim(world.search.aim);
            trial.mode = n;
            int steps = trial.goOn(MOST_TILL);
            if (trial.isOver() && steps < fewestSteps) {
                best = n;
                fewestSteps = steps;
            }
        }
        return best;
    }

    public long mean() {
        Search search = world.search;
        if (search.gone <= 0) {
            return 0L;
        }
        return FloatBits.ofDouble((double) search.asked / (double) search.gone);
    }

    // ---- THE IMAGE, and the rest

    public int image() {
        kept.become(world);
        return world.search.phase;
    }

    public int back() {
        world.become(kept);
        return world.search.phase;
    }

    public int about(int what) {
        switch (what) {
            case 0:
                return world.textCount;
            case 1:
                return world.pastCount;
            case 2:
                return world.search.claims.size;
            case 3:
                return tapeSize;
            case 4:
                return world.search.mode;
            default:
                return NO_SUCH;
        }
    }

    /** Sets of STATES, a bit each. */
    private static final class Sets {
        static boolean has(long set, int state) {
            return (set >>> state & 1L) != 0L;
        }

        static int lowest(long set) {
            return set == 0L ? NONE : Long.numberOfTrailingZeros(set);
        }

        /** The i-th STATE of a set by numbers, or NONE. */
        static int stateAt(long set, int i) {
            int left = i;
            for (int state = 0; state < MOST_STATES && left >= 0; state++) {
                if (has(set, state)) {
                    if (left == 0) {
                        return state;
                    }
                    left--;
                }
            }
            return NONE;
        }
    }

    /** What can be said of a CUBE by its MASK and BITS alone. */
    private static final class Cubes {
        static int cubeOf(int mask, int bits) {
            return mask * MOST_STATES + bits;
        }

        static int maskOf(int cube) {
            return cube / MOST_STATES;
        }

        static int bitsOf(int cube) {
            return cube % MOST_STATES;
        }

        static int without(int cube, int letter) {
            int bit = 1 << letter;
            return cubeOf(maskOf(cube) & ~bit, bitsOf(cube) & ~bit);
        }

        static boolean liesIn(int inner, int outer) {
            int mask = maskOf(outer);
            return (maskOf(inner) & mask) == mask && (bitsOf(inner) & mask) == bitsOf(outer);
        }

        /** The STATES of a CUBE, as if there were all six LETTERS. */
        static long statesOf(int cube) {
            int mask = maskOf(cube);
            int bits = bitsOf(cube);
            long set = -1L;
            for (int letter = 0; letter < LETTER_SETS.length; letter++) {
                if ((mask >> letter & 1) != 0) {
                    boolean one = (bits >> letter & 1) != 0;
                    set &= one ? LETTER_SETS[letter] : ~LETTER_SETS[letter];
                }
            }
            return set;
        }
    }

    /** The bits of floats that are 0 or more, worked out, as the library has no part for it here. */
    private static final class FloatBits {
        private static final int LEAST_FLOAT_POWER = -126;
        private static final int LEAST_DOUBLE_POWER = -1022;
        private static final int FLOAT_ONE = 1 << 23;
        private static final long DOUBLE_ONE = 1L << 52;

        static int ofFloat(float value) {
            float part = value;
            int power = 0;
            for (int n = 0; n < 200 && part >= 2.0f; n++) {
                part = part / 2.0f;
                power++;
            }
            for (int n = 0; n < 200 && part < 1.0f && power > LEAST_FLOAT_POWER; n++) {
                part = part * 2.0f;
                power--;
            }
            int digits = (int) (part * (float) FLOAT_ONE);
            // 0, and what is too small to have its leading digit left out
            if (digits < FLOAT_ONE) {
                return digits;
            }
            return (power - LEAST_FLOAT_POWER) * FLOAT_ONE + digits;
        }

        static long ofDouble(double value) {
            double part = value;
            int power = 0;
            for (int n = 0; n < 1100 && part >= 2.0; n++) {
                part = part / 2.0;
                power++;
            }
            for (int n = 0; n < 1100 && part < 1.0 && power > LEAST_DOUBLE_POWER; n++) {
                part = part * 2.0;
                power--;
            }
            long digits = (long) (part * (double) DOUBLE_ONE);
            if (digits < DOUBLE_ONE) {
                return digits;
            }
            return (power - LEAST_DOUBLE_POWER) * DOUBLE_ONE + digits;
        }
    }

    /** LETTERS, SUCCESSORS, INIT and AIMS; nothing of it ever changes, so many may share it. */
    private static final class Machine {
        final int letters;
        final int states;
        final long all;
        final long init;
        final long[] aims;
        private final int[] successors;
        private final long[] leading;

        /** Successors: four for each STATE, one for each INPUT. */
        Machine(int letters, int[] successors, long init, long[] aims) {
            this.letters = letters;
            this.states = 1 << letters;
            this.all = -1L >>> (MOST_STATES - states);
            this.init = init & all;
            this.aims = aims;
            this.successors = successors;
            this.leading = new long[states];
            for (int i = 0; i < aims.length; i++) {
                aims[i] &= all;
            }
            for (int i = 0; i < successors.length; i++) {
                int to = successors[i];
                if (to >= 0 && to < states) {
                    leading[to] |= 1L << (i / INPUTS);
                }
            }
        }

        static Machine plain() {
            int letters = 3;
            int[] successors = new int[INPUTS << letters];
            for (int i = 0; i < successors.length; i++) {
                successors[i] = i / INPUTS;
            }
            return new Machine(letters, successors, 1L, new long[1]);
        }

        static Machine bySeed(int seed, int letters) {
            int states = 1 << letters;
            int[] successors = new int[INPUTS << letters];
            int x = seed;
            for (int i = 0; i < successors.length; i++) {
                x = (x * 773 + 641) % 31139;
                successors[i] = x / 7 % states;
            }
            long[] aims = new long[1];
            aims[0] = 1L << (states - 1);
            return new Machine(letters, successors, 1L, aims);
        }

        boolean hasState(int state) {
            return state >= 0 && state < states;
        }

        boolean hasAim(int which) {
            return which >= 0 && which < aims.length;
        }

        boolean hasCube(int mask, int bits) {
            return mask >= 0 && mask < states && (bits & ~mask) == 0;
        }

        int next(int state, int input) {
            int i = state * INPUTS + input;
            return i >= 0 && i < successors.length ? successors[i] : NONE;
        }

        int inputBetween(int from, int to) {
            for (int input = 0; input < INPUTS; input++) {
                if (next(from, input) == to) {
                    return input;
                }
            }
            return NONE;
        }

        /** All STATES that have this one as a SUCCESSOR. */
        long leadingTo(int state) {
            return state >= 0 && state < leading.length ? leading[state] : 0L;
        }

        /** All STATES that have a SUCCESSOR in a set. */
        long before(long set) {
            long found = 0L;
            long rest = set;
            for (int state = 0; state < leading.length && rest != 0L; state++) {
                if ((rest & 1L) != 0L) {
                    found |= leading[state];
                }
                rest >>>= 1;
            }
            return found;
        }

        /** All SUCCESSORS of a set by some INPUTS. */
        long after(long set, int inputs) {
            long found = 0L;
            long rest = set;
            for (int state = 0; state < states && rest != 0L; state++) {
                for (int input = 0; input < INPUTS && (rest & 1L) != 0L; input++) {
                    if ((inputs >> input & 1) != 0) {
                        found |= 1L << next(state, input);
                    }
                }
                rest >>>= 1;
            }
            return found;
        }

        /** How many times one has to go on, at least, from INIT to a STATE of a set, or NONE. */
        int stepsTo(long goal, int inputs) {
            long come = init;
            long fresh = init;
            for (int n = 0; n <= MOST_STATES && fresh != 0L; n++) {
                if ((fresh & goal) != 0L) {
                    return n;
                }
                fresh = after(fresh, inputs) & ~come;
                come |= fresh;
            }
            return NONE;
        }

        /** How many times one has to go on, at least, from a STATE of one set to one of another, or NONE. */
        int stepsBetween(long from, long goal) {
            long come = goal;
            long fresh = goal;
            for (int n = 0; n <= MOST_STATES && fresh != 0L; n++) {
                if ((fresh & from) != 0L) {
                    return n;
                }
                fresh = before(fresh) & ~come;
                come |= fresh;
            }
            return NONE;
        }

        long comeToBy(int most) {
            long come = init;
            long fresh = init;
            for (int n = 0; n < most && n < MOST_STATES && fresh != 0L; n++) {
                fresh = after(fresh, ALL_INPUTS) & ~come;
                come |= fresh;
            }
            return come;
        }

        long comingTo(long goal, int most) {
            long come = goal;
            long fresh = goal;
            for (int n = 0; n < most && n < MOST_STATES && fresh != 0L; n++) {
                fresh = before(fresh) & ~come;
                come |= fresh;
            }
            return come;
        }

        /** Puts the STATES that are FAR by 0, by 1 and so on into a row, up to the nearest of INIT: how FAR, or NONE. */
        private int fillFars(long goal, long[] row) {
            long come = goal;
            long fresh = goal;
            for (int n = 0; n < row.length && fresh != 0L; n++) {
                row[n] = fresh;
                if ((fresh & init) != 0L) {
                    return n;
                }
                fresh = before(fresh) & ~come;
                come |= fresh;
            }
            return NONE;
        }

        /** Puts THE SHORTEST into a row: how many STATES it has. Another row takes what is FAR by how many. */
        int fillShortest(long goal, long[] fars, int[] row) {
            int steps = fillFars(goal, fars);
            if (steps == NONE || steps >= row.length) {
                return 0;
            }
            long open = init;
            for (int i = 0; i <= steps; i++) {
                int state = Sets.lowest(open & fars[steps - i]);
                if (state == NONE) {
                    return 0;
                }
                row[i] = state;
                open = after(1L << state, ALL_INPUTS);
            }
            return steps + 1;
        }
    }

    /** CUBES in order, by FRAMES where they have some; a set beside each, as it is asked for often. */
    private static final class CubeRow {
        private int[] frames;
        private int[] cubes;
        private long[] sets;
        int size;

        CubeRow() {
            frames = new int[0];
            cubes = new int[0];
            sets = new long[0];
        }

        void become(CubeRow other) {
            makeRoom(other.size);
            System.arraycopy(other.frames, 0, frames, 0, other.size);
            System.arraycopy(other.cubes, 0, cubes, 0, other.size);
            System.arraycopy(other.sets, 0, sets, 0, other.size);
            size = other.size;
        }

        /** All CUBES of another row from a place on take the place of these, without their FRAMES. */
        void takeFrom(CubeRow other, int from) {
            size = 0;
            if (other == null) {
                return;
            }
            for (int i = from; i < other.size; i++) {
                append(other.cubeAt(i));
            }
        }

        private void makeRoom(int needed) {
            if (needed > frames.length) {
                frames = Arrays.copyOf(frames, needed);
                cubes = Arrays.copyOf(cubes, needed);
                sets = Arrays.copyOf(sets, needed);
            }
        }

        int cubeAt(int i) {
            return i >= 0 && i < size ? cubes[i] : 0;
        }

        long statesAt(int i) {
            return i >= 0 && i < size ? sets[i] : 0L;
        }

        boolean isOf(int i, int frame) {
            return i >= 0 && i < size && frames[i] == frame;
        }

        /** The place of the first CUBE of a FRAME or of one above it. */
        int startOf(int frame) {
            int i = 0;
            while (i < size && frames[i] < frame) {
                i++;
            }
            return i;
        }

        int countOf(int frame) {
            return startOf(frame + 1) - startOf(frame);
        }

        int highestFrame() {
            return size > 0 ? frames[size - 1] : 0;
        }

        int lettersOf(int frame) {
            int sum = 0;
            for (int i = startOf(frame); i < size && frames[i] == frame; i++) {
                sum += Integer.bitCount(Cubes.maskOf(cubes[i]));
            }
            return sum;
        }

        long unionFrom(int from) {
            long union = 0L;
            for (int i = from >= 0 ? from : 0; i < size; i++) {
                union |= sets[i];
            }
            return union;
        }

        long unionBut(int left) {
            long union = 0L;
            for (int i = 0; i < size; i++) {
                if (i != left) {
                    union |= sets[i];
                }
            }
            return union;
        }

        /** A CUBE is the last one of a FRAME; all of FRAMES up to there that LIE IN it are out. */
        void putLast(int frame, int cube) {
            int left = 0;
            for (int i = 0; i < size; i++) {
                if (frames[i] > frame || !Cubes.liesIn(cubes[i], cube)) {
                    frames[left] = frames[i];
                    cubes[left] = cubes[i];
                    sets[left] = sets[i];
                    left++;
                }
            }
            size = left;
            insert(startOf(frame + 1), frame, cube);
        }

        void append(int cube) {
            insert(size, 0, cube);
        }

        private void insert(int place, int frame, int cube) {
            if (place < 0 || place > size) {
                return;
            }
            if (size >= frames.length) {
                makeRoom(size * 2 + 8);
            }
            System.arraycopy(frames, place, frames, place + 1, size - place);
            System.arraycopy(cubes, place, cubes, place + 1, size - place);
            System.arraycopy(sets, place, sets, place + 1, size - place);
            frames[place] = frame;
            cubes[place] = cube;
            sets[place] = Cubes.statesOf(cube);
            size++;
        }

        void change(int i, int cube) {
            if (i >= 0 && i < size) {
                cubes[i] = cube;
                sets[i] = Cubes.statesOf(cube);
            }
        }

        void removeAt(int place) {
            if (place < 0 || place >= size) {
                return;
            }
            int behind = size - place - 1;
            System.arraycopy(frames, place + 1, frames, place, behind);
            System.arraycopy(cubes, place + 1, cubes, place, behind);
            System.arraycopy(sets, place + 1, sets, place, behind);
            size--;
        }
    }

    /** OBLIGATIONS as they come, four parts each in one row. */
    private static final class Obligations {
        static final int PARTS = 4;
        static final int STATE = 0;
        static final int LEVEL = 1;
        static final int NUMBER = 2;
        static final int LEADS_TO = 3;

        private int[] parts;
        int size;

        Obligations() {
            parts = new int[0];
        }

        void become(Obligations other) {
            makeRoom(other.size);
            System.arraycopy(other.parts, 0, parts, 0, other.size * PARTS);
            size = other.size;
        }

        private void makeRoom(int needed) {
            if (needed * PARTS > parts.length) {
                parts = Arrays.copyOf(parts, needed * PARTS);
            }
        }

        int part(int i, int what) {
            int place = i * PARTS + what;
            return place >= 0 && place < parts.length ? parts[place] : 0;
        }

        /** NUMBERS only grow, so that a new one comes behind all of like LEVEL and STATE. */
        void add(int state, int level, int number, int leadsTo) {
            int place = 0;
            while (place < size && comesFirst(place, state, level)) {
                place++;
            }
            if ((size + 1) * PARTS > parts.length) {
                makeRoom(size * 2 + MOST_SOUGHT);
            }
            int from = place * PARTS;
            System.arraycopy(parts, from, parts, from + PARTS, (size - place) * PARTS);
            parts[from + STATE] = state;
            parts[from + LEVEL] = level;
            parts[from + NUMBER] = number;
            parts[from + LEADS_TO] = leadsTo;
            size++;
        }

        private boolean comesFirst(int i, int state, int level) {
            int its = part(i, LEVEL);
            return its < level || its == level && part(i, STATE) <= state;
        }

        void dropFirst() {
            if (size > 0) {
                System.arraycopy(parts, PARTS, parts, 0, (size - 1) * PARTS);
                size--;
            }
        }

        /** Puts the STATES from the first OBLIGATION on, as each leads to the next, into a row: how many. */
        int fillChain(int[] row) {
            int filled = 0;
            int at = size > 0 ? 0 : NONE;
            while (at != NONE && filled < row.length) {
                row[filled] = part(at, STATE);
                filled++;
                at = placeOf(part(at, LEADS_TO));
            }
            return filled;
        }

        private int placeOf(int number) {
            for (int i = 0; i < size; i++) {
                if (part(i, NUMBER) == number) {
                    return i;
                }
            }
            return NONE;
        }
    }

    /** ACTIVITIES of all six LETTERS, and BUMP. */
    private static final class Activities {
        private final float[] values;
        float bump;

        Activities() {
            values = new float[MOST_LETTERS];
            bump = 1.0f;
        }

        void clear() {
            Arrays.fill(values, 0.0f);
            bump = 1.0f;
        }

        void become(Activities other) {
            System.arraycopy(other.values, 0, values, 0, values.length);
            bump = other.bump;
        }

        float valueOf(int letter) {
            return letter >= 0 && letter < values.length ? values[letter] : 0.0f;
        }

        void raise(int mask) {
            boolean tooHigh = false;
            for (int letter = 0; letter < values.length; letter++) {
                if ((mask >> letter & 1) != 0) {
                    values[letter] = values[letter] + bump;
                    tooHigh = tooHigh || values[letter] > 1000.0f;
                }
            }
            bump = bump * 1.5f;
            if (tooHigh) {
                lower();
            }
        }

        private void lower() {
            for (int letter = 0; letter < values.length; letter++) {
                values[letter] = values[letter] * 0.001f;
            }
            bump = bump * 0.001f;
        }

        /** The i-th of LETTERS in their ORDER, or NONE. */
        int letterAt(int i, int mode, int letters) {
            for (int letter = 0; letter < letters && letter < values.length; letter++) {
                if (rankOf(letter, mode, letters) == i) {
                    return letter;
                }
            }
            return NONE;
        }

        private int rankOf(int letter, int mode, int letters) {
            float its = valueOf(letter);
            int rank = 0;
            for (int other = 0; other < letters && other < values.length; other++) {
                float that = values[other];
                boolean first = other < letter;
                if (mode != 1 && that != its) {
                    first = mode == 0 ? that < its : that > its;
                }
                rank += first ? 1 : 0;
            }
            return rank;
        }
    }

    /** A MACHINE and how far it is looked through: all that is as it was when a STEP is taken back. */
    private static final class Search {
        Machine machine;
        int aim;
        int mode;
        int phase;
        int top;
        int at;
        int latest;
        int gone;
        int asked;
        int barred;
        int moved;
        final CubeRow frames;
        final Obligations obligations;
        final Activities activities;
        final CubeRow claims;

        Search(Machine first) {
            machine = first;
            top = 1;
            at = 1;
            frames = new CubeRow();
            obligations = new Obligations();
            activities = new Activities();
            claims = new CubeRow();
        }

        void become(Search other) {
            machine = other.machine;
            aim = other.aim;
            mode = other.mode;
            phase = other.phase;
            top = other.top;
            at = other.at;
            latest = other.latest;
            gone = other.gone;
            asked = other.asked;
            barred = other.barred;
            moved = other.moved;
            frames.become(other.frames);
            obligations.become(other.obligations);
            activities.become(other.activities);
            claims.become(other.claims);
        }

        /** A MACHINE comes; MODE alone stays. */
        void begin(Machine comes) {
            machine = comes;
            aim = 0;
            phase = SEEKS;
            top = 1;
            at = 1;
            latest = 0;
            gone = 0;
            asked = 0;
            barred = 0;
            moved = 0;
            frames.size = 0;
            obligations.size = 0;
            activities.clear();
            claims.size = 0;
        }

        void tellAim(int which) {
            aim = which;
            obligations.size = 0;
            phase = SEEKS;
            top = Math.max(1, frames.highestFrame());
        }

        boolean isOver() {
            return phase == SAFE || phase == UNSAFE;
        }

        boolean hasFrame(int frame) {
            return frame >= 0 && frame <= top;
        }

        boolean hasCubeFrame(int frame) {
            return frame >= 1 && frame <= top;
        }

        long aimStates() {
            return machine.hasAim(aim) ? machine.aims[aim] : 0L;
        }

        long statesWithin(int frame) {
            if (frame <= 0) {
                return machine.init;
            }
            return machine.all & ~frames.unionFrom(frames.startOf(frame));
        }

        long badWithin(int frame) {
            return aimStates() & statesWithin(frame);
        }

        long soughtStates() {
            long found = badWithin(top);
            long lowest = 0L;
            for (int n = 0; n < MOST_SOUGHT; n++) {
                long one = found & -found;
                lowest |= one;
                found &= ~one;
            }
            return lowest;
        }

        /** Whether none of some STATES, outside a CUBE, has a SUCCESSOR in it. */
        boolean keepsOut(int cube, long some) {
            long set = Cubes.statesOf(cube);
            return (some & ~set & machine.before(set)) == 0L;
        }

        boolean hasInit(int cube) {
            return (Cubes.statesOf(cube) & machine.init) != 0L;
        }

        boolean canBar(int cube, int frame) {
            return (phase == SEEKS || phase == OBLIGES) && hasCubeFrame(frame)
                && !hasInit(cube) && keepsOut(cube, statesWithin(frame - 1));
        }

        int lowestAhead(int state, int frame) {
            return Sets.lowest(statesWithin(frame) & machine.leadingTo(state) & ~(1L << state));
        }

        int widen(int state, int level, boolean counted) {
            int cube = Cubes.cubeOf(machine.states - 1, state);
            long some = statesWithin(level - 1);
            for (int i = 0; i < machine.letters; i++) {
                int wider = Cubes.without(cube, activities.letterAt(i, mode, machine.letters));
                if (!hasInit(wider)) {
                    if (counted) {
                        asked++;
                    }
                    cube = keepsOut(wider, some) ? wider : cube;
                }
            }
            return cube;
        }

        /** STEPS, so many or as many as there are: how many. */
        int goOn(int most) {
            int n = 0;
            while (n < most && !isOver()) {
                if (phase == SEEKS) {
                    seek();
                } else if (phase == OBLIGES) {
                    oblige();
                } else {
                    push();
                }
                n++;
            }
            gone += n;
            return n;
        }

        private void seek() {
            long found = soughtStates();
            if (found == 0L) {
                top++;
                phase = PUSHES;
                at = 1;
                return;
            }
            for (int state = 0; state < machine.states; state++) {
                if (Sets.has(found, state)) {
                    latest++;
                    obligations.add(state, top, latest, 0);
                }
            }
            phase = OBLIGES;
        }

        private void oblige() {
            if (obligations.size == 0) {
                phase = SEEKS;
                return;
            }
            int state = obligations.part(0, Obligations.STATE);
            int level = obligations.part(0, Obligations.LEVEL);
            if (Sets.has(machine.init, state)) {
                phase = UNSAFE;
            } else if (!Sets.has(statesWithin(level), state)) {
                obligations.dropFirst();
            } else {
                meet(state, level);
            }
        }

        /** The first OBLIGATION has one ahead of it, or else it is BARRED. */
        private void meet(int state, int level) {
            asked++;
            int ahead = lowestAhead(state, level - 1);
            if (ahead != NONE) {
                latest++;
                obligations.add(ahead, level - 1, latest, obligations.part(0, Obligations.NUMBER));
                return;
            }
            int cube = widen(state, level, true);
            frames.putLast(highestFor(cube, level), cube);
            activities.raise(Cubes.maskOf(cube));
            barred++;
            obligations.dropFirst();
        }

        private int highestFor(int cube, int level) {
            int up = level;
            boolean kept = true;
            while (up < top && kept) {
                asked++;
                kept = keepsOut(cube, statesWithin(up));
                up += kept ? 1 : 0;
            }
            return up;
        }

        private void push() {
            long some = statesWithin(at);
            int place = frames.startOf(at);
            int most = frames.size;
            for (int n = 0; n < most && frames.isOf(place, at); n++) {
                int cube = frames.cubeAt(place);
                asked++;
                if (keepsOut(cube, some)) {
                    // none of those passed lies in it, as none could be led into then: the next one is here
                    frames.putLast(at + 1, cube);
                    moved++;
                } else {
                    place++;
                }
            }
            if (frames.countOf(at) == 0) {
                phase = SAFE;
                return;
            }
            at++;
            if (at >= top) {
                phase = SEEKS;
            }
        }

        /** The place of the first CUBE of THE FENCE: AT is yet the FRAME that has none left. */
        int fenceStart() {
            return frames.startOf(at + 1);
        }

        int judgementOf(long union) {
            if ((machine.init & union) != 0L) {
                return 1;
            }
            if ((machine.before(union) & ~union) != 0L) {
                return 2;
            }
            return (aimStates() & ~union) != 0L ? 3 : 0;
        }

        int witnessOf(long union) {
            switch (judgementOf(union)) {
                case 1:
                    return Sets.lowest(machine.init & union);
                case 2:
                    return Sets.lowest(machine.before(union) & ~union);
                case 3:
                    return Sets.lowest(aimStates() & ~union);
                default:
                    return NONE;
            }
        }

        /** Drops what LETTERS of a CLAIM it can: the CUBE then. */
        int loosenClaim(int i) {
            long others = claims.unionBut(i);
            int cube = claims.cubeAt(i);
            for (int n = 0; n < machine.letters; n++) {
                int wider = Cubes.without(cube, activities.letterAt(n, mode, machine.letters));
                if (judgementOf(others | Cubes.statesOf(wider)) == 0) {
                    cube = wider;
                }
            }
            claims.change(i, cube);
            return cube;
        }
    }

    /** FEWEST, looked for by how many they are. */
    private static final class Chooser {
        private final long[] sets;
        private final long[] before;

        Chooser() {
            sets = new long[MOST_CLAIMS];
            before = new long[MOST_CLAIMS];
        }

        /** The set of the FEWEST of CUBES of which THE JUDGEMENT is 0, or NONE if they are too many. */
        int choose(CubeRow row, int from, Search search) {
            if (row == null || row.size - from > MOST_CLAIMS) {
                return NONE;
            }
            int count = row.size - from;
            for (int i = 0; i < count; i++) {
                sets[i] = row.statesAt(from + i);
                before[i] = search.machine.before(sets[i]);
            }
            for (int many = 0; many <= count; many++) {
                int found = firstOf(many, count, search.aimStates());
                if (found != NONE) {
                    return found;
                }
            }
            return NONE;
        }

        private int firstOf(int many, int count, long aim) {
            int set = (1 << many) - 1;
            for (int n = 0; n < 1 << MOST_CLAIMS && set < 1 << count; n++) {
                if (suffices(set, count, aim)) {
                    return set;
                }
                set = nextOfLikeMany(set);
            }
            return NONE;
        }

        /** INIT is in none of all CUBES, so it is in none of some. */
        private boolean suffices(int set, int count, long aim) {
            long union = 0L;
            long leading = 0L;
            for (int i = 0; i < count; i++) {
                if ((set >> i & 1) != 0) {
                    union |= sets[i];
                    leading |= before[i];
                }
            }
            return ((aim | leading) & ~union) == 0L;
        }

        private static int nextOfLikeMany(int set) {
            if (set == 0) {
                return 1 << MOST_CLAIMS;
            }
            int ripple = set + (set & -set);
            return ripple | (ripple ^ set) >>> 2 + Integer.numberOfTrailingZeros(set);
        }
    }

    /** All that THE IMAGE has: TEXTS, what is now, and what can be taken back (none of which ever changes). */
    private static final class World {
        private final Machine[] texts;
        int textCount;
        private final Search[] past;
        int pastCount;
        final Search search;

        World(Machine first) {
            texts = new Machine[MOST_TEXTS];
            past = new Search[MOST_BACK];
            search = new Search(first);
        }

        void become(World other) {
            for (int i = 0; i < texts.length && i < other.texts.length; i++) {
                texts[i] = other.texts[i];
            }
            textCount = other.textCount;
            for (int i = 0; i < past.length && i < other.past.length; i++) {
                past[i] = other.past[i];
            }
            pastCount = other.pastCount;
            search.become(other.search);
        }

        int addText(Machine machine) {
            if (textCount < 0 || textCount >= texts.length) {
                return NONE;
            }
            texts[textCount] = machine;
            textCount++;
            return textCount - 1;
        }

        Machine textAt(int i) {
            return i >= 0 && i < textCount && i < texts.length ? texts[i] : null;
        }

        /** A new object each time, as THE IMAGE may yet have the one that is pushed out. */
        void remember() {
            if (pastCount >= past.length) {
                for (int i = 1; i < past.length; i++) {
                    past[i - 1] = past[i];
                }
                pastCount = past.length - 1;
            }
            Search now = new Search(search.machine);
            now.become(search);
            past[pastCount] = now;
            pastCount++;
        }

        int takeBack() {
            if (pastCount <= 0 || pastCount > past.length) {
                return NONE;
            }
            Search latest = past[pastCount - 1];
            if (latest == null) {
                return NONE;
            }
            pastCount--;
            past[pastCount] = null;
            search.become(latest);
            return pastCount;
        }
    }

    /** Reads a TEXT: all its TOKENS first, then CLAUSE by CLAUSE up to the end or the first FAULT. */
    private static final class Reader {
        private static final int THE_END = 0;
        private static final int NO_TOKEN = 1;
        private static final int LETTER = 2;
        private static final int INPUT = 3;
        private static final int NUMBER = 4;
        private static final int SIGN = 5;
        private static final int LETTERS_WORD = 6;
        private static final int INIT_WORD = 7;
        private static final int BAD_WORD = 8;
        private static final int NEXT_WORD = 9;
        /** Above every NUMBER that is told, so that long ones need not be held whole. */
        private static final int BIG = 1000;
        /** What joins the parts of a FORM, the loosest first. */
        private static final String JOINTS = "|^&";
        private static final String SIGNS = "()!&^|;";

        private final int[] kinds;
        private final int[] values;
        private final int[] places;
        private int count;
        private int now;
        int fault;
        int faultPlace;

        private int letters;
        private boolean initTold;
        private long init;
        private int badCount;
        private final long[] bads;
        private int nextTold;
        /** For each LETTER and INPUT the STATES whose SUCCESSOR has it as 1. */
        private final long[] nexts;
        /** The INPUT that a FORM is read for, NONE but in next. */
        private int input;

        Reader() {
            kinds = new int[MOST_BYTES + 1];
            values = new int[MOST_BYTES + 1];
            places = new int[MOST_BYTES + 1];
            bads = new long[MOST_AIMS];
            nexts = new long[MOST_LETTERS * INPUTS];
        }

        private void forget() {
            count = 0;
            now = 0;
            fault = 0;
            faultPlace = NONE;
            letters = 3;
            initTold = false;
            init = 1L;
            badCount = 0;
            Arrays.fill(bads, 0L);
            nextTold = 0;
            for (int i = 0; i < nexts.length && i / INPUTS < LETTER_SETS.length; i++) {
                nexts[i] = LETTER_SETS[i / INPUTS];
            }
            input = NONE;
        }

        Machine machine() {
            int[] successors = new int[INPUTS << letters];
            for (int i = 0; i < successors.length; i++) {
                for (int letter = 0; letter < letters; letter++) {
                    if (Sets.has(nexts[letter * INPUTS + i % INPUTS], i / INPUTS)) {
                        successors[i] |= 1 << letter;
                    }
                }
            }
            return new Machine(letters, successors, init, Arrays.copyOf(bads, Math.max(1, badCount)));
        }

        void readAll(byte[] bytes, int size) {
            forget();
            takeTokens(bytes, Math.min(size, bytes.length));
            if (kinds[now] == LETTERS_WORD) {
                readLetters();
                takeSign(';');
            }
            for (int n = 0; n < MOST_BYTES && kinds[now] != THE_END; n++) {
                switch (kinds[now]) {
                    case INIT_WORD:
                        readInit();
                        break;
                    case BAD_WORD:
                        readBad();
                        break;
                    case NEXT_WORD:
                        readNext();
                        break;
                    default:
                        fail(1);
                        break;
                }
                takeSign(';');
            }
        }

        // ---- TOKENS

        private void takeTokens(byte[] bytes, int size) {
            int at = 0;
            for (int n = 0; n < MOST_BYTES && at < size; n++) {
                int one = bytes[at];
                if (isSmall(one)) {
                    at = takeWord(bytes, at, size);
                } else if (isDigit(one)) {
                    at = takeNumber(bytes, at, size);
                } else {
                    if (one != 32 && one != 10) {
                        addToken(SIGNS.indexOf((char) (one & 255)) >= 0 ? SIGN : NO_TOKEN, one, at);
                    }
                    at++;
                }
            }
            addToken(THE_END, 0, size);
        }

        private void addToken(int kind, int value, int place) {
            if (count < kinds.length) {
                kinds[count] = kind;
                values[count] = value;
                places[count] = place;
                count++;
            }
        }

        private static boolean isSmall(int one) {
            return one >= 'a' && one <= 'z';
        }

        private static boolean isDigit(int one) {
            return one >= '0' && one <= '9';
        }

        private int takeNumber(byte[] bytes, int from, int size) {
            int value = 0;
            int to = from;
            while (to < size && isDigit(bytes[to])) {
                value = Math.min(BIG, value * 10 + bytes[to] - '0');
                to++;
            }
            addToken(NUMBER, value, from);
            return to;
        }

        private int takeWord(byte[] bytes, int from, int size) {
            int to = from;
            while (to < size && isSmall(bytes[to])) {
                to++;
            }
            int first = bytes[from];
            if (to - from > 1) {
                addToken(kindOfWord(bytes, from, to), 0, from);
            } else if (first < 'a' + MOST_LETTERS) {
                addToken(LETTER, first - 'a', from);
            } else {
                addToken(first == 'x' || first == 'y' ? INPUT : NO_TOKEN, first - 'x', from);
            }
            return to;
        }

        private static int kindOfWord(byte[] bytes, int from, int to) {
            if (isWord("letters", bytes, from, to)) {
                return LETTERS_WORD;
            }
            if (isWord("init", bytes, from, to)) {
                return INIT_WORD;
            }
            if (isWord("bad", bytes, from, to)) {
                return BAD_WORD;
            }
            return isWord("next", bytes, from, to) ? NEXT_WORD : NO_TOKEN;
        }

        private static boolean isWord(String word, byte[] bytes, int from, int to) {
            if (word.length() != to - from || to > bytes.length) {
                return false;
            }
            for (int i = 0; i < word.length(); i++) {
                if (bytes[from + i] != word.charAt(i)) {
                    return false;
                }
            }
            return true;
        }

        // ---- CLAUSES

        private void goOn() {
            if (now + 1 < count) {
                now++;
            }
        }

        private boolean isSign(char sign) {
            return kinds[now] == SIGN && values[now] == sign;
        }

        private void takeSign(char sign) {
            if (isSign(sign)) {
                goOn();
            } else {
                fail(1);
            }
        }

        /** The first FAULT alone counts; it leaves the end as the one TOKEN there is, so that all reading ends. */
        private void fail(int number) {
            if (fault == 0) {
                fault = number;
                faultPlace = places[now];
            }
            if (count > 0) {
                now = count - 1;
            }
        }

        private void readLetters() {
            goOn();
            int many = values[now];
            if (kinds[now] != NUMBER) {
                fail(1);
            } else if (many < 1 || many > MOST_LETTERS) {
                fail(2);
            } else {
                letters = many;
                goOn();
            }
        }

        private void readInit() {
            if (initTold) {
                fail(4);
                return;
            }
            initTold = true;
            goOn();
            init = readForm(0, 0);
        }

        private void readBad() {
            if (badCount >= bads.length) {
                fail(4);
                return;
            }
            goOn();
            bads[badCount] = readForm(0, 0);
            badCount++;
        }

        private void readNext() {
            goOn();
            int letter = values[now];
            if (kinds[now] != LETTER) {
                fail(1);
            } else if (letter >= letters) {
                fail(3);
            } else if ((nextTold >> letter & 1) != 0) {
                fail(4);
            } else {
                nextTold |= 1 << letter;
                goOn();
                readForInputs(letter * INPUTS);
            }
        }

        /** The FORM is read once for each INPUT, from the same TOKEN on. */
        private void readForInputs(int first) {
            int start = now;
            for (input = 0; input < INPUTS && first + input < nexts.length && fault == 0; input++) {
                now = start;
                nexts[first + input] = readForm(0, 0);
            }
            input = NONE;
        }

        /**
         * The STATES in which a FORM is 1, or a part of it that is joined by this joint or tighter ones.
         * Depth: how many of ! and ( are open around it.
         */
        private long readForm(int joint, int depth) {
            if (joint >= JOINTS.length()) {
                return readOne(depth);
            }
            long set = readForm(joint + 1, depth);
            for (int n = 0; n < MOST_BYTES && isSign(JOINTS.charAt(joint)); n++) {
                goOn();
                long other = readForm(joint + 1, depth);
                switch (joint) {
                    case 0:
                        set |= other;
                        break;
                    case 1:
                        set ^= other;
                        break;
                    default:
                        set &= other;
                        break;
                }
            }
            return set;
        }

        private long readOne(int depth) {
            boolean not = isSign('!');
            if (!not && !isSign('(')) {
                return readPlain();
            }
            if (depth >= MOST_OPEN) {
                fail(6);
                return 0L;
            }
            goOn();
            if (not) {
                return ~readOne(depth + 1);
            }
            long set = readForm(0, depth + 1);
            takeSign(')');
            return set;
        }

        private long readPlain() {
            int kind = kinds[now];
            int value = values[now];
            if (kind == LETTER && value < letters && value < LETTER_SETS.length) {
                goOn();
                return LETTER_SETS[value];
            }
            if (kind == INPUT && input != NONE) {
                goOn();
                return -(long) (input >> value & 1);
            }
            if (kind == NUMBER && value <= 1) {
                goOn();
                return -(long) value;
            }
            fail(faultOf(kind));
            return 0L;
        }

        /** Which FAULT a TOKEN is where a LETTER or its like has to stand, and it is none that can. */
        private static int faultOf(int kind) {
            switch (kind) {
                case NUMBER:
                    return 2;
                case LETTER:
                    return 3;
                case INPUT:
                    return 5;
                default:
                    return 1;
            }
        }
    }
}

import java.util.ArrayDeque;
import java.util.ArrayList;
import java.util.Arrays;
import java.util.Collections;
import java.util.Comparator;
import java.util.List;
import java.util.TreeSet;

/**
 * The document once more, as plainly as it can be said with the whole library and without a thought
 * for speed or room: ModelTest holds the program against it.
 */
final class Model {
    static final int NONE = -1;

    // ---- a MACHINE and all that is taken back with it

    static final class Mac {
        int letters = 3;
        int[][] next = new int[8][4];
        TreeSet<Integer> init = new TreeSet<>();
        List<TreeSet<Integer>> aims = new ArrayList<>();

        int states() {
            return 1 << letters;
        }
    }

    record Cube(int mask, int bits) {
        boolean has(int state) {
            return (state & mask) == bits;
        }
    }

    static final class Ob {
        final int state;
        final int level;
        final int number;
        final Ob to;

        Ob(int state, int level, int number, Ob to) {
            this.state = state;
            this.level = level;
            this.number = number;
            this.to = to;
        }
    }

    static final class Core implements Cloneable {
        Mac mac;
        int aim = 0;
        int mode = 0;
        int phase = 0;
        int at = 0;
        int latest = 0;
        int steps = 0;
        int asked = 0;
        int barred = 0;
        int moved = 0;
        int top = 1;
        List<List<Cube>> frames = new ArrayList<>();
        List<Ob> obs = new ArrayList<>();
        List<Ob> chain = new ArrayList<>();
        List<Cube> fence = new ArrayList<>();
        float[] act = new float[6];
        float bump = 1f;
        List<Cube> claims = new ArrayList<>();

        Core(Mac mac) {
            this.mac = mac;
            room();
        }

        void room() {
            while (frames.size() <= top + 1) {
                frames.add(new ArrayList<>());
            }
        }

        Core copy() {
            Core c = new Core(mac);
            c.aim = aim;
            c.mode = mode;
            c.phase = phase;
            c.at = at;
            c.latest = latest;
            c.steps = steps;
            c.asked = asked;
            c.barred = barred;
            c.moved = moved;
            c.top = top;
            c.frames = new ArrayList<>();
            for (List<Cube> f : frames) {
                c.frames.add(new ArrayList<>(f));
            }
            c.obs = new ArrayList<>(obs);
            c.chain = new ArrayList<>(chain);
            c.fence = new ArrayList<>(fence);
            c.act = act.clone();
            c.bump = bump;
            c.claims = new ArrayList<>(claims);
            return c;
        }

        TreeSet<Integer> aimSet() {
            return mac.aims.get(aim);
        }

        boolean in(int state, int frame) {
            if (frame == 0) {
                return mac.init.contains(state);
            }
            for (int f = frame; f < frames.size(); f++) {
                for (Cube c : frames.get(f)) {
                    if (c.has(state)) {
                        return false;
                    }
                }
            }
            return true;
        }

        boolean holdsAt(Cube c, int frame) {
            for (int s = 0; s < mac.states(); s++) {
                if (in(s, frame) && !c.has(s)) {
                    for (int t : mac.next[s]) {
                        if (c.has(t)) {
                            return false;
                        }
                    }
                }
            }
            return true;
        }

        boolean hasInit(Cube c) {
            return mac.init.stream().anyMatch(c::has);
        }

        boolean liesIn(Cube inner, Cube outer) {
            for (int s = 0; s < mac.states(); s++) {
                if (inner.has(s) && !outer.has(s)) {
                    return false;
                }
            }
            return true;
        }

        int aheadOf(int state, int frame) {
            for (int s = 0; s < mac.states(); s++) {
                final int t = state;
                if (s != state && in(s, frame) && Arrays.stream(mac.next[s]).anyMatch(n -> n == t)) {
                    return s;
                }
            }
            return NONE;
        }

        List<Integer> order() {
            List<Integer> list = new ArrayList<>();
            for (int i = 0; i < mac.letters; i++) {
                list.add(i);
            }
            Comparator<Integer> low = (a, b) -> act[a] < act[b] ? -1 : act[a] > act[b] ? 1 : 0;
            if (mode == 0) {
                list.sort(low); // stable: of like ones the lower stays ahead
            } else if (mode == 2) {
                list.sort(low.reversed());
            }
            return list;
        }

        Cube widen(int state, int level, boolean count) {
            Cube c = new Cube(mac.states() - 1, state);
            for (int l : order()) {
                Cube d = new Cube(c.mask & ~(1 << l), c.bits & ~(1 << l));
                if (hasInit(d)) {
                    continue;
                }
                if (count) {
                    asked++;
                }
                if (holdsAt(d, level - 1)) {
                    c = d;
                }
            }
            return c;
        }

        void put(Cube c, int frame) {
            for (int f = 1; f <= frame; f++) {
                frames.get(f).removeIf(d -> liesIn(d, c));
            }
            frames.get(frame).add(c);
        }

        List<Integer> sought() {
            List<Integer> list = new ArrayList<>();
            for (int s : aimSet()) {
                if (in(s, top) && list.size() < 8) {
                    list.add(s);
                }
            }
            return list;
        }

        boolean step() {
            if (phase == 3 || phase == 4) {
                return false;
            }
            steps++;
            if (phase == 0) {
                List<Integer> list = sought();
                if (list.isEmpty()) {
                    top++;
                    room();
                    phase = 2;
                    at = 1;
                } else {
                    for (int s : list) {
                        obs.add(new Ob(s, top, ++latest, null));
                    }
                    phase = 1;
                }
            } else if (phase == 1) {
                obliged();
            } else {
                pushed();
            }
            return true;
        }

        List<Ob> queue() {
            List<Ob> q = new ArrayList<>(obs);
            q.sort(Comparator.<Ob>comparingInt(o -> o.level).thenComparingInt(o -> o.state)
                .thenComparingInt(o -> o.number));
            return q;
        }

        void obliged() {
            if (obs.isEmpty()) {
                phase = 0;
                return;
            }
            Ob o = queue().get(0);
            if (mac.init.contains(o.state)) {
                phase = 4;
                chain.clear();
                for (Ob p = o; p != null; p = p.to) {
                    chain.add(p);
                }
                return;
            }
            if (!in(o.state, o.level)) {
                obs.remove(o);
                return;
            }
            asked++;
            int s = aheadOf(o.state, o.level - 1);
            if (s != NONE) {
                obs.add(new Ob(s, o.level - 1, ++latest, o));
                return;
            }
            Cube c = widen(o.state, o.level, true);
            int up = o.level;
            while (up < top) {
                asked++;
                if (!holdsAt(c, up)) {
                    break;
                }
                up++;
            }
            put(c, up);
            barred++;
            boolean high = false;
            for (int l = 0; l < 6; l++) {
                if ((c.mask >> l & 1) == 1) {
                    act[l] += bump;
                }
                high |= act[l] > 1000f;
            }
            bump *= 1.5f;
            if (high) {
                for (int l = 0; l < 6; l++) {
                    act[l] *= 0.001f;
                }
                bump *= 0.001f;
            }
            obs.remove(o);
        }

        void pushed() {
            for (Cube c : new ArrayList<>(frames.get(at))) {
                if (!frames.get(at).contains(c)) {
                    continue;
                }
                asked++;
                if (holdsAt(c, at)) {
                    put(c, at + 1);
                    moved++;
                }
            }
            if (frames.get(at).isEmpty()) {
                phase = 3;
                fence.clear();
                for (int f = at + 1; f < frames.size(); f++) {
                    fence.addAll(frames.get(f));
                }
                return;
            }
            at++;
            if (at == top) {
                phase = 0;
            }
        }

        void told(int which) {
            aim = which;
            obs.clear();
            phase = 0;
            top = 1;
            for (int f = 1; f < frames.size(); f++) {
                if (!frames.get(f).isEmpty()) {
                    top = f;
                }
            }
            room();
        }

        int till() {
            int n = 0;
            while (phase < 3) {
                if (n == 400) {
                    return NONE;
                }
                step();
                n++;
            }
            return n;
        }

        int judge(List<Cube> cubes) {
            return judge(cubes, false);
        }

        /** THE JUDGEMENT, or the lowest STATE that makes it so. */
        int judge(List<Cube> cubes, boolean who) {
            for (int s : mac.init) {
                if (some(cubes, s)) {
                    return who ? s : 1;
                }
            }
            for (int s = 0; s < mac.states(); s++) {
                if (!some(cubes, s)) {
                    for (int t : mac.next[s]) {
                        if (some(cubes, t)) {
                            return who ? s : 2;
                        }
                    }
                }
            }
            for (int s : aimSet()) {
                if (!some(cubes, s)) {
                    return who ? s : 3;
                }
            }
            return who ? NONE : 0;
        }

        static boolean some(List<Cube> cubes, int s) {
            return cubes.stream().anyMatch(c -> c.has(s));
        }
    }

    // ---- a TEXT: all TOKENS first, then the CLAUSES

    static final class Fault extends RuntimeException {
        final int kind;
        final int place;

        Fault(int kind, int place) {
            super(null, null, false, false);
            this.kind = kind;
            this.place = place;
        }
    }

    record Tok(String s, int place) { }

    interface Form {
        boolean at(int state, int input);
    }

    static final class Parse {
        final List<Tok> toks = new ArrayList<>();
        int i = 0;
        int letters = 3;
        boolean next = false;
        int open = 0;

        Parse(String text) {
            int p = 0;
            while (p < text.length()) {
                char c = text.charAt(p);
                int q = p + 1;
                if (c == ' ' || c == '\n') {
                    p = q;
                    continue;
                }
                if (c >= 'a' && c <= 'z') {
                    while (q < text.length() && text.charAt(q) >= 'a' && text.charAt(q) <= 'z') {
                        q++;
                    }
                } else if (c >= '0' && c <= '9') {
                    while (q < text.length() && text.charAt(q) >= '0' && text.charAt(q) <= '9') {
                        q++;
                    }
                }
                toks.add(new Tok(text.substring(p, q), p));
                p = q;
            }
            toks.add(new Tok("", text.length()));
        }

        String now() {
            return toks.get(i).s;
        }

        Fault fault(int kind) {
            return new Fault(kind, toks.get(i).place);
        }

        void expect(String s) {
            if (!now().equals(s)) {
                throw fault(1);
            }
            i++;
        }

        boolean number() {
            return !now().isEmpty() && Character.isDigit(now().charAt(0)) && now().charAt(0) < 128;
        }

        int value() {
            return new java.math.BigInteger(now()).min(java.math.BigInteger.valueOf(99)).intValue();
        }

        Mac mac() {
            Form init = null;
            List<Form> bads = new ArrayList<>();
            Form[] nexts = new Form[6];
            if (now().equals("letters")) {
                i++;
                if (!number()) {
                    throw fault(1);
                }
                if (value() < 1 || value() > 6) {
                    throw fault(2);
                }
                letters = value();
                i++;
                expect(";");
            }
            while (!now().isEmpty()) {
                if (now().equals("init")) {
                    if (init != null) {
                        throw fault(4);
                    }
                    i++;
                    init = form();
                } else if (now().equals("bad")) {
                    if (bads.size() == 4) {
                        throw fault(4);
                    }
                    i++;
                    bads.add(form());
                } else if (now().equals("next")) {
                    i++;
                    if (!now().matches("[a-f]")) {
                        throw fault(1);
                    }
                    int l = now().charAt(0) - 'a';
                    if (l >= letters) {
                        throw fault(3);
                    }
                    if (nexts[l] != null) {
                        throw fault(4);
                    }
                    i++;
                    next = true;
                    nexts[l] = form();
                    next = false;
                } else {
                    throw fault(1);
                }
                expect(";");
            }
            return made(init, bads, nexts);
        }

        Mac made(Form init, List<Form> bads, Form[] nexts) {
            Mac m = new Mac();
            m.letters = letters;
            m.next = new int[m.states()][4];
            for (int s = 0; s < m.states(); s++) {
                for (int in = 0; in < 4; in++) {
                    for (int l = 0; l < letters; l++) {
                        boolean one = nexts[l] == null ? (s >> l & 1) == 1 : nexts[l].at(s, in);
                        m.next[s][in] += one ? 1 << l : 0;
                    }
                }
                if (init == null ? s == 0 : init.at(s, 0)) {
                    m.init.add(s);
                }
            }
            for (Form f : bads) {
                TreeSet<Integer> set = new TreeSet<>();
                for (int s = 0; s < m.states(); s++) {
                    if (f.at(s, 0)) {
                        set.add(s);
                    }
                }
                m.aims.add(set);
            }
            if (bads.isEmpty()) {
                m.aims.add(new TreeSet<>());
            }
            return m;
        }

        Form form() {
            Form f = odd();
            while (now().equals("|")) {
                i++;
                Form g = f;
                Form h = odd();
                f = (s, in) -> g.at(s, in) | h.at(s, in);
            }
            return f;
        }

        Form odd() {
            Form f = both();
            while (now().equals("^")) {
                i++;
                Form g = f;
                Form h = both();
                f = (s, in) -> g.at(s, in) ^ h.at(s, in);
            }
            return f;
        }

        Form both() {
            Form f = one();
            while (now().equals("&")) {
                i++;
                Form g = f;
                Form h = one();
                f = (s, in) -> g.at(s, in) & h.at(s, in);
            }
            return f;
        }

        Form one() {
            String t = now();
            if (t.equals("!") || t.equals("(")) {
                if (open == 10) {
                    throw fault(6);
                }
                open++;
                i++;
                Form f = t.equals("!") ? one() : form();
                if (t.equals("(")) {
                    expect(")");
                }
                open--;
                return t.equals("(") ? f : (s, in) -> !f.at(s, in);
            }
            Form f;
            if (t.matches("[a-f]")) {
                int l = t.charAt(0) - 'a';
                if (l >= letters) {
                    throw fault(3);
                }
                f = (s, in) -> (s >> l & 1) == 1;
            } else if (t.equals("x") || t.equals("y")) {
                if (!next) {
                    throw fault(5);
                }
                int l = t.charAt(0) - 'x';
                f = (s, in) -> (in >> l & 1) == 1;
            } else if (number()) {
                int v = value();
                if (v > 1) {
                    throw fault(2);
                }
                f = (s, in) -> v == 1;
            } else {
                throw fault(1);
            }
            i++;
            return f;
        }
    }

    // ---- the face

    private final StringBuilder tape = new StringBuilder();
    private int[] fault = null;
    private List<Mac> texts = new ArrayList<>();
    private Core core;
    private ArrayDeque<Core> past = new ArrayDeque<>();
    private List<Mac> imageTexts = new ArrayList<>();
    private Core imageCore;
    private ArrayDeque<Core> imagePast = new ArrayDeque<>();

    Model() {
        Mac m = new Mac();
        for (int s = 0; s < 8; s++) {
            Arrays.fill(m.next[s], s);
        }
        m.init.add(0);
        m.aims.add(new TreeSet<>());
        core = new Core(m);
        imageCore = core.copy();
    }

    private void save() {
        past.addLast(core.copy());
        if (past.size() > 20) {
            past.removeFirst();
        }
    }

    private boolean state(int s) {
        return s >= 0 && s < core.mac.states();
    }

    private boolean frame(int f) {
        return f >= 0 && f <= core.top;
    }

    private boolean valid(int mask, int bits) {
        return mask >= 0 && mask < core.mac.states() && (bits | mask) == mask;
    }

    public int feed(int a, int b, int c, int d, int e) {
        if (tape.length() > 280) {
            return NONE;
        }
        for (int v : new int[] {a, b, c, d, e}) {
            for (byte x : java.nio.ByteBuffer.allocate(4).putInt(v).array()) {
                tape.append((char) (x & 255));
            }
        }
        return tape.length();
    }

    public int end(int n) {
        if (n < 0 || n > tape.length()) {
            return NONE;
        }
        tape.setLength(n);
        return n;
    }

    public int text() {
        if (texts.size() == 4) {
            return NONE;
        }
        String t = tape.toString();
        tape.setLength(0);
        try {
            texts.add(new Parse(t).mac());
            fault = new int[] {0, NONE};
            return texts.size() - 1;
        } catch (Fault f) {
            fault = new int[] {f.kind, f.place};
            return NONE;
        }
    }

    public int fault(int what) {
        return fault == null || what < 0 || what > 1 ? NONE : fault[what];
    }

    private void come(Mac m) {
        save();
        Core c = new Core(m);
        c.mode = core.mode;
        core = c;
    }

    public int load(int text) {
        if (text < 0 || text >= texts.size()) {
            return NONE;
        }
        come(texts.get(text));
        return core.mac.letters;
    }

    public boolean drawn(int seed, int letters) {
        if (seed < 0 || seed > 9999 || letters < 1 || letters > 6) {
            return false;
        }
        Mac m = new Mac();
        m.letters = letters;
        m.next = new int[m.states()][4];
        long x = seed;
        for (int s = 0; s < m.states(); s++) {
            for (int in = 0; in < 4; in++) {
                x = (x * 773 + 641) % 31139;
                m.next[s][in] = (int) (x / 7 % m.states());
            }
        }
        m.init.add(0);
        m.aims.add(new TreeSet<>(List.of(m.states() - 1)));
        come(m);
        return true;
    }

    public boolean aim(int which) {
        if (which < 0 || which >= core.mac.aims.size()) {
            return false;
        }
        save();
        core.told(which);
        return true;
    }

    public boolean mode(int n) {
        if (n < 0 || n > 2) {
            return false;
        }
        save();
        core.mode = n;
        return true;
    }

    public int bar(int mask, int bits, int frame) {
        if (!valid(mask, bits) || frame < 1 || frame > core.top || core.phase > 1) {
            return NONE;
        }
        Cube c = new Cube(mask, bits);
        if (core.hasInit(c) || !core.holdsAt(c, frame - 1)) {
            return NONE;
        }
        save();
        core.put(c, frame);
        return core.frames.get(frame).size();
    }

    public int step(int n) {
        if (n < 1 || n > 500 || core.phase > 2) {
            return NONE;
        }
        save();
        int k = 0;
        while (k < n && core.step()) {
            k++;
        }
        return k;
    }

    public int undo() {
        if (past.isEmpty()) {
            return NONE;
        }
        core = past.removeLast();
        return past.size();
    }

    public int is(int what) {
        int[] all = {core.mac.letters, core.top, core.phase, core.phase == 2 ? core.at : NONE,
            core.mac.aims.size(), core.aim, core.obs.size(), core.latest, core.steps, core.asked,
            core.barred, core.moved};
        return what < 0 || what >= all.length ? NONE : all[what];
    }

    public int successor(int state, int input) {
        return !state(state) || input < 0 || input > 3 ? NONE : core.mac.next[state][input];
    }

    private static int pick(List<Integer> list, int i) {
        return i == NONE ? list.size() : i < 0 || i >= list.size() ? NONE : list.get(i);
    }

    public int leads(int state, int i) {
        if (!state(state)) {
            return NONE;
        }
        List<Integer> list = new ArrayList<>();
        for (int s = 0; s < core.mac.states(); s++) {
            if (Arrays.stream(core.mac.next[s]).anyMatch(t -> t == state)) {
                list.add(s);
            }
        }
        return pick(list, i);
    }

    public boolean of(int state, int aim) {
        if (aim == NONE) {
            return core.mac.init.contains(state);
        }
        return aim >= 0 && aim < core.mac.aims.size() && core.mac.aims.get(aim).contains(state);
    }

    public boolean within(int state, int frame) {
        return state(state) && frame(frame) && core.in(state, frame);
    }

    public int wide(int frame) {
        if (!frame(frame)) {
            return NONE;
        }
        int n = 0;
        for (int s = 0; s < core.mac.states(); s++) {
            n += core.in(s, frame) ? 1 : 0;
        }
        return n;
    }

    public int bad(int frame) {
        return frame(frame) ? (int) core.aimSet().stream().filter(s -> core.in(s, frame)).count() : NONE;
    }

    public int sought(int i) {
        return pick(core.sought(), i);
    }

    public int weight(int frame) {
        if (frame < 1 || !frame(frame)) {
            return NONE;
        }
        return core.frames.get(frame).stream().mapToInt(c -> Integer.bitCount(c.mask)).sum();
    }

    private static int part(List<Cube> list, int i, int what) {
        if (i == NONE) {
            return list.size();
        }
        if (i < 0 || i >= list.size() || what < 0 || what > 1) {
            return -2;
        }
        return what == 0 ? list.get(i).mask : list.get(i).bits;
    }

    public int cube(int frame, int i, int what) {
        return frame < 1 || !frame(frame) ? -2 : part(core.frames.get(frame), i, what);
    }

    public int obligation(int i, int what) {
        List<Ob> q = core.queue();
        if (i == NONE) {
            return q.size();
        }
        if (i < 0 || i >= q.size() || what < 0 || what > 3) {
            return -2;
        }
        Ob o = q.get(i);
        return new int[] {o.state, o.level, o.number, o.to == null ? 0 : o.to.number}[what];
    }

    private int pathPart(List<Integer> list, int i, int what) {
        if (i == NONE) {
            return list.size();
        }
        if (i < 0 || i >= list.size() || what < 0 || what > 1) {
            return -2;
        }
        if (what == 0) {
            return list.get(i);
        }
        if (i == list.size() - 1) {
            return NONE;
        }
        int input = 0;
        while (core.mac.next[list.get(i)][input] != list.get(i + 1)) {
            input++;
        }
        return input;
    }

    private List<Integer> traced() {
        List<Integer> list = new ArrayList<>();
        if (core.phase == 4) {
            core.chain.forEach(o -> list.add(o.state));
        }
        return list;
    }

    public int trace(int i, int what) {
        return pathPart(traced(), i, what);
    }

    private List<Cube> fenced() {
        return core.phase == 3 ? core.fence : List.of();
    }

    public int fence(int i, int what) {
        return part(fenced(), i, what);
    }

    public int activity(int letter) {
        if (letter == NONE) {
            return Float.floatToIntBits(core.bump);
        }
        return letter < 0 || letter >= core.mac.letters ? -2 : Float.floatToIntBits(core.act[letter]);
    }

    public int order(int i) {
        return i < 0 || i >= core.mac.letters ? NONE : core.order().get(i);
    }

    public boolean holds(int mask, int bits, int frame) {
        return valid(mask, bits) && frame(frame) && core.holdsAt(new Cube(mask, bits), frame);
    }

    public int widened(int state, int level) {
        if (!state(state) || level < 1 || level > core.top || core.mac.init.contains(state)
            || !core.holdsAt(new Cube(core.mac.states() - 1, state), level - 1)) {
            return NONE;
        }
        Cube c = core.copy().widen(state, level, true);
        return c.mask * 64 + c.bits;
    }

    public int ahead(int state, int frame) {
        return state(state) && frame(frame) ? core.aheadOf(state, frame) : NONE;
    }

    /** DISTANCE of each STATE by rounds of mending, or NONE. */
    private int[] distances(int inputs) {
        int[] d = new int[core.mac.states()];
        Arrays.fill(d, 1000);
        core.mac.init.forEach(s -> d[s] = 0);
        for (boolean changed = true; changed;) {
            changed = false;
            for (int s = 0; s < d.length; s++) {
                for (int in = 0; in < 4; in++) {
                    int t = core.mac.next[s][in];
                    if ((inputs >> in & 1) == 1 && d[s] + 1 < d[t]) {
                        d[t] = d[s] + 1;
                        changed = true;
                    }
                }
            }
        }
        return Arrays.stream(d).map(v -> v >= 1000 ? NONE : v).toArray();
    }

    private int[] fars() {
        int[] d = new int[core.mac.states()];
        Arrays.fill(d, 1000);
        core.aimSet().forEach(s -> d[s] = 0);
        for (boolean changed = true; changed;) {
            changed = false;
            for (int s = 0; s < d.length; s++) {
                for (int t : core.mac.next[s]) {
                    if (d[t] + 1 < d[s]) {
                        d[s] = d[t] + 1;
                        changed = true;
                    }
                }
            }
        }
        return Arrays.stream(d).map(v -> v >= 1000 ? NONE : v).toArray();
    }

    private static int upTo(int[] d, int n) {
        return n < 0 ? NONE : (int) Arrays.stream(d).filter(v -> v != NONE && v <= n).count();
    }

    public int distance(int state) {
        return state(state) ? distances(15)[state] : NONE;
    }

    public int distanceBy(int state, int inputs) {
        return state(state) && inputs >= 1 && inputs <= 15 ? distances(inputs)[state] : NONE;
    }

    public int far(int state) {
        return state(state) ? fars()[state] : NONE;
    }

    public int doomed(int n) {
        return upTo(fars(), n);
    }

    private List<Integer> shortestWay() {
        int[] far = fars();
        List<Integer> list = new ArrayList<>();
        int best = NONE;
        for (int s : core.mac.init) {
            if (far[s] != NONE && (best == NONE || far[s] < far[best])) {
                best = s;
            }
        }
        while (best != NONE) {
            list.add(best);
            int here = best;
            best = Arrays.stream(core.mac.next[here]).filter(t -> far[here] > 0 && far[t] == far[here] - 1)
                .min().orElse(NONE);
        }
        return list;
    }

    public int shortest(int i, int what) {
        return pathPart(shortestWay(), i, what);
    }

    public int detour() {
        return core.phase == 4 ? traced().size() - shortestWay().size() : NONE;
    }

    public int nearest() {
        int[] d = distances(15);
        return core.aimSet().stream().map(s -> d[s]).filter(v -> v != NONE).min(Integer::compare).orElse(NONE);
    }

    public int reach(int n) {
        return upTo(distances(15), n);
    }

    public int slack(int frame) {
        if (!frame(frame)) {
            return NONE;
        }
        int[] d = distances(15);
        int n = 0;
        for (int s = 0; s < d.length; s++) {
            n += core.in(s, frame) && (d[s] == NONE || d[s] > frame) ? 1 : 0;
        }
        return n;
    }

    public int claim(int mask, int bits) {
        if (!valid(mask, bits) || core.claims.size() == 12) {
            return NONE;
        }
        save();
        core.claims.add(new Cube(mask, bits));
        return core.claims.size();
    }

    public int adopt() {
        if (core.phase != 3 || core.fence.size() > 12) {
            return NONE;
        }
        save();
        core.claims = new ArrayList<>(core.fence);
        return core.claims.size();
    }

    public int unclaim(int i) {
        if (i < 0 || i >= core.claims.size()) {
            return NONE;
        }
        save();
        core.claims.remove(i);
        return core.claims.size();
    }

    public int loosen(int i) {
        if (i < 0 || i >= core.claims.size() || core.judge(core.claims) != 0) {
            return NONE;
        }
        save();
        for (int l : core.order()) {
            Cube c = core.claims.get(i);
            if ((c.mask >> l & 1) == 1) {
                core.claims.set(i, new Cube(c.mask - (1 << l), c.bits & ~(1 << l)));
                if (core.judge(core.claims) != 0) {
                    core.claims.set(i, c);
                }
            }
        }
        return core.claims.get(i).mask;
    }

    public int claimed(int i, int what) {
        return part(core.claims, i, what);
    }

    private List<Cube> cubesOf(int what) {
        if (what == 0) {
            return core.claims;
        }
        if (what == 1) {
            return core.phase == 3 ? core.fence : null;
        }
        List<Cube> all = new ArrayList<>();
        core.frames.forEach(all::addAll);
        return what == 2 ? all : null;
    }

    public int judged(int what) {
        return cubesOf(what) == null ? NONE : core.judge(cubesOf(what));
    }

    public int witness(int what) {
        return cubesOf(what) == null ? NONE : core.judge(cubesOf(what), true);
    }

    public int spare(int what) {
        if (what == 2 || judged(what) != 0) {
            return NONE;
        }
        List<Cube> left = new ArrayList<>(cubesOf(what));
        int out = 0;
        for (int i = 0; i < cubesOf(what).size(); i++) {
            List<Cube> fewer = new ArrayList<>(left);
            fewer.remove(i - out);
            if (core.judge(fewer) == 0) {
                left = fewer;
                out++;
            }
        }
        return out;
    }

    public int fewest(int what) {
        return chosen(what) == NONE ? NONE : Integer.bitCount(chosen(what));
    }

    public int chosen(int what) {
        if (what == 2 || judged(what) != 0 || cubesOf(what).size() > 12) {
            return NONE;
        }
        List<Cube> all = cubesOf(what);
        int best = (1 << all.size()) - 1;
        for (int set = best; set >= 0; set--) {
            List<Cube> some = new ArrayList<>();
            for (int i = 0; i < all.size(); i++) {
                if ((set >> i & 1) == 1) {
                    some.add(all.get(i));
                }
            }
            if (Integer.bitCount(set) <= Integer.bitCount(best) && core.judge(some) == 0) {
                best = set;
            }
        }
        return best;
    }

    public int inside(int what) {
        if (what == 2 || cubesOf(what) == null) {
            return NONE;
        }
        int n = 0;
        for (int s = 0; s < core.mac.states(); s++) {
            n += Core.some(cubesOf(what), s) ? 0 : 1;
        }
        return n;
    }

    public int foretold(int n) {
        if (n < 1 || n > 500) {
            return NONE;
        }
        Core c = core.copy();
        for (int k = 0; k < n; k++) {
            c.step();
        }
        return c.phase;
    }

    public int till() {
        return core.copy().till();
    }

    private static int least(List<Integer> tills) {
        List<Integer> known = tills.stream().filter(t -> t != NONE).toList();
        return known.isEmpty() ? NONE : tills.indexOf(Collections.min(known));
    }

    public int quickest() {
        List<Integer> tills = new ArrayList<>();
        for (int a = 0; a < core.mac.aims.size(); a++) {
            Core c = core.copy();
            c.told(a);
            tills.add(c.till());
        }
        return least(tills);
    }

    public int bestMode() {
        List<Integer> tills = new ArrayList<>();
        for (int m = 0; m < 3; m++) {
            Core c = new Core(core.mac);
            c.mode = m;
            c.aim = core.aim;
            tills.add(c.till());
        }
        return least(tills);
    }

    public long mean() {
        return core.steps == 0 ? 0 : Double.doubleToLongBits((double) core.asked / core.steps);
    }

    public int image() {
        imageTexts = new ArrayList<>(texts);
        imageCore = core.copy();
        imagePast = new ArrayDeque<>();
        past.forEach(c -> imagePast.addLast(c.copy()));
        return core.phase;
    }

    public int back() {
        texts = new ArrayList<>(imageTexts);
        core = imageCore.copy();
        past = new ArrayDeque<>();
        imagePast.forEach(c -> past.addLast(c.copy()));
        return core.phase;
    }

    public int about(int what) {
        return switch (what) {
            case 0 -> texts.size();
            case 1 -> past.size();
            case 2 -> core.claims.size();
            case 3 -> tape.length();
            case 4 -> core.mode;
            default -> -2;
        };
    }
}

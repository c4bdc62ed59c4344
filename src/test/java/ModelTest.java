import java.lang.reflect.Method;
import java.util.ArrayList;
import java.util.List;
import java.util.Random;

/** All promises: random runs of up to 512 calls, each answer held against the plain model's. */
final class ModelTest {
    private static final String[] OFTEN = {
        "step", "step", "step", "step", "aim", "aim", "bar", "bar", "bar", "claim", "claim", "undo", "mode",
        "adopt", "loosen", "trace", "fence", "cube", "obligation", "shortest", "judged", "spare", "chosen"
    };
    private static final int RUNS = Integer.getInteger("runs", 400);
    private static final int SEED = Integer.getInteger("seed", 1);

    private final Random random;
    private final FencedStates program = new FencedStates();
    private final Model model = new Model();
    private final List<Method> methods;
    private final StringBuilder log = new StringBuilder();
    private final int[] phases;
    private int calls = 0;

    private ModelTest(int seed, List<Method> methods, int[] phases) {
        this.random = new Random(seed);
        this.methods = methods;
        this.phases = phases;
    }

    public static void main(String[] args) throws Exception {
        List<Method> methods = new ArrayList<>();
        for (Method m : FencedStates.class.getDeclaredMethods()) {
            if (java.lang.reflect.Modifier.isPublic(m.getModifiers())) {
                methods.add(m);
            }
        }
        methods.sort(java.util.Comparator.comparing(Method::getName));
        int[] phases = new int[5];
        long calls = 0;
        for (int run = 0; run < RUNS; run++) {
            ModelTest test = new ModelTest(SEED * 1000003 + run, methods, phases);
            if (!test.run()) {
                System.out.println("run " + run + ":\n" + test.log);
                System.exit(1);
            }
            calls += test.calls;
        }
        System.out.println(calls + " answers as the model's; behind calls the PHASES 0 .. 4 were seen "
            + java.util.Arrays.toString(phases) + " times");
    }

    private boolean run() throws Exception {
        int style = random.nextInt(4);
        while (calls < 512) {
            boolean right;
            int kind = random.nextInt(100);
            if (kind < 4) {
                right = tell(style == 0 ? 1 + random.nextInt(3) : 1 + random.nextInt(6));
            } else if (kind < 5 && style != 1) {
                right = call("drawn", random.nextInt(10000), 1 + random.nextInt(6));
            } else if (kind < 30) {
                right = call(method(OFTEN[random.nextInt(OFTEN.length)]));
            } else {
                right = call(methods.get(random.nextInt(methods.size())));
            }
            if (!right) {
                return false;
            }
            phases[program.is(2)]++;
        }
        return true;
    }

    private Method method(String name) {
        return methods.stream().filter(m -> m.getName().equals(name)).findFirst().orElseThrow();
    }

    private boolean call(Method m) throws Exception {
        Object[] args = new Object[m.getParameterCount()];
        for (int i = 0; i < args.length; i++) {
            args[i] = argument(m.getName(), i, args);
        }
        return call(m, args);
    }

    private boolean call(String name, Object... args) throws Exception {
        return call(method(name), args);
    }

    private boolean call(Method m, Object[] args) throws Exception {
        Object got = m.invoke(program, args);
        Object due = Model.class.getDeclaredMethod(m.getName(), m.getParameterTypes()).invoke(model, args);
        calls++;
        log.append(m.getName()).append(java.util.Arrays.toString(args)).append(" = ").append(got);
        if (!got.equals(due)) {
            log.append(", the model's is ").append(due);
        }
        log.append('\n');
        return got.equals(due);
    }

    private int argument(String name, int i, Object[] args) {
        if (random.nextInt(40) == 0) {
            int[] odd = {Integer.MIN_VALUE, Integer.MAX_VALUE, -1, -2, -3, 64, 63, 500, 501, 1 << 16, 0};
            return odd[random.nextInt(odd.length)];
        }
        int states = 1 << model.is(0);
        switch (name) {
            case "feed":
                return random.nextInt();
            case "end":
                return random.nextInt(320) - 5;
            case "drawn":
                return i == 0 ? random.nextInt(10000) : random.nextInt(8);
            case "step":
            case "foretold":
                return random.nextInt(10) == 0 ? 500 : 1 + random.nextInt(12);
            case "bar":
            case "holds":
            case "claim":
                if (i == 0) {
                    return random.nextInt(states);
                }
                return i == 1 ? random.nextInt(states) & (Integer) args[0] : random.nextInt(model.is(1) + 2);
            case "successor":
            case "leads":
            case "of":
            case "within":
            case "widened":
            case "ahead":
            case "distance":
            case "distanceBy":
            case "far":
                if (i == 0) {
                    return random.nextInt(states + 1);
                }
                return name.equals("distanceBy") ? random.nextInt(17) : random.nextInt(7) - 1;
            case "cube":
                return i == 0 ? random.nextInt(model.is(1) + 2) : random.nextInt(5) - 1;
            case "wide":
            case "bad":
            case "weight":
            case "slack":
                return random.nextInt(model.is(1) + 2);
            case "is":
                return random.nextInt(14) - 1;
            default:
                return random.nextInt(7) - 1;
        }
    }

    // ---- TEXTS

    private boolean tell(int letters) throws Exception {
        if (model.about(0) == 4 && random.nextInt(3) > 0 && !call("back")) {
            return false;
        }
        String text = text(letters);
        if (random.nextInt(3) == 0) {
            text = hurt(text);
        }
        boolean right = call("end", 0);
        for (int from = 0; from < text.length() && right; from += 20) {
            Object[] five = new Object[5];
            for (int k = 0; k < 5; k++) {
                int value = 0;
                for (int j = from + 4 * k; j < from + 4 * k + 4; j++) {
                    value = value << 8 | (j < text.length() ? text.charAt(j) : 0);
                }
                five[k] = value;
            }
            right = call("feed", five);
        }
        log.append("  (").append(text).append(")\n");
        return right && call("end", Math.min(text.length(), 300)) && call("text") && call("fault", 0)
            && call("fault", 1) && call("load", random.nextInt(4)) && call("is", 0);
    }

    private String text(int letters) {
        StringBuilder b = new StringBuilder();
        b.append("letters ").append(letters).append(';');
        if (random.nextInt(3) == 0) {
            b.append("init ").append(form(letters, false, 2)).append(';');
        }
        int counter = random.nextInt(3);
        for (int l = 0; l < letters; l++) {
            String form = form(letters, true, 2);
            if (counter == 0) {
                form = "" + (char) ('a' + l);
                StringBuilder carry = new StringBuilder(random.nextBoolean() ? "x" : "1");
                for (int k = 0; k < l; k++) {
                    carry.append('&').append((char) ('a' + k));
                }
                form = form + "^" + carry;
            }
            if (random.nextInt(8) > 0 || counter == 0) {
                b.append("next ").append((char) ('a' + l)).append(' ').append(form).append(';');
            }
        }
        int bads = random.nextInt(5);
        for (int k = 0; k < bads && b.length() < 270; k++) {
            b.append("bad ").append(form(letters, false, 2)).append(';');
        }
        return b.toString();
    }

    private String form(int letters, boolean next, int depth) {
        StringBuilder b = new StringBuilder();
        int parts = 1 + random.nextInt(3);
        for (int k = 0; k < parts; k++) {
            if (k > 0) {
                b.append("|^&&".charAt(random.nextInt(4)));
            }
            if (random.nextInt(3) == 0) {
                b.append('!');
            }
            if (depth > 0 && random.nextInt(6) == 0) {
                b.append('(').append(form(letters, next, depth - 1)).append(')');
            } else if (next && random.nextInt(4) == 0) {
                b.append("xy".charAt(random.nextInt(2)));
            } else if (random.nextInt(25) == 0) {
                b.append(random.nextInt(2));
            } else {
                b.append((char) ('a' + random.nextInt(letters)));
            }
        }
        return b.toString();
    }

    /** Something is put in, put in place of something, or left out. */
    private String hurt(String text) {
        String[] bits = {"x", "y", "d", "f", "g", "2", "7", "0", "1", "(", ")", "!", "&", ";", " ", "\n", "init ",
            "bad ", "next ", "letters ", "!!!!!!!!!!!", "((((((((((", "#", "A", "init 0;", "next a b;", "bad a;"};
        int at = random.nextInt(text.length());
        int to = Math.min(text.length(), at + random.nextInt(3));
        String bit = random.nextInt(4) == 0 ? "" : bits[random.nextInt(bits.length)];
        return text.substring(0, at) + bit + text.substring(to);
    }
}

import java.lang.reflect.Constructor;
import java.lang.reflect.Field;
import java.lang.reflect.Method;
import java.util.Random;

/** Promises 26 and 55: the bits of floats, which the program works out by itself, down to the least. */
final class FloatsTest {
    private static final Due due = new Due();

    public static void main(String[] args) throws Exception {
        Class<?> bits = null;
        for (Class<?> c : FencedStates.class.getDeclaredClasses()) {
            bits = c.getSimpleName().equals("FloatBits") ? c : bits;
        }
        Method ofFloat = bits.getDeclaredMethod("ofFloat", float.class);
        Method ofDouble = bits.getDeclaredMethod("ofDouble", double.class);
        ofFloat.setAccessible(true);
        ofDouble.setAccessible(true);
        float[] edges = {0f, Float.MIN_VALUE, Float.MIN_NORMAL, Math.nextDown(Float.MIN_NORMAL), 1f, Math.nextDown(1f),
            2f, Math.nextDown(2f), 1000f, Math.nextUp(1000f), Float.MAX_VALUE, 0.001f, 1.5f};
        for (float f : edges) {
            due.is("bits of " + f, (int) ofFloat.invoke(null, f), Float.floatToIntBits(f));
        }
        double[] doubles = {0, Double.MIN_VALUE, Double.MIN_NORMAL, 1, Math.nextDown(1.0), 2, Double.MAX_VALUE, 1 / 3.0};
        for (double d : doubles) {
            due.is("bits of " + d, (long) ofDouble.invoke(null, d), Double.doubleToLongBits(d));
        }
        Random random = new Random(7);
        for (int n = 0; n < 200000; n++) {
            float f = Float.intBitsToFloat(random.nextInt() & 0x7fffffff);
            if (f <= Float.MAX_VALUE) {
                due.is("bits of " + f, (int) ofFloat.invoke(null, f), Float.floatToIntBits(f));
            }
            double d = (double) random.nextInt(3000000) / (double) (1 + random.nextInt(256000));
            due.is("bits of " + d, (long) ofDouble.invoke(null, d), Double.doubleToLongBits(d));
        }
        activities();
        due.end();
    }

    /** No run of calls is known that comes to an ACTIVITY of exactly 1000, so that it is put there. */
    private static void activities() throws Exception {
        due.sentence(0, "BUMP is 1.5 times that; is an ACTIVITY above 1000, all ACTIVITIES and BUMP are 0.001 times that;"
            + " the OBLIGATION is out.");
        Class<?> kind = null;
        for (Class<?> c : FencedStates.class.getDeclaredClasses()) {
            kind = c.getSimpleName().equals("Activities") ? c : kind;
        }
        Constructor<?> made = kind.getDeclaredConstructor();
        Field values = kind.getDeclaredField("values");
        Field bump = kind.getDeclaredField("bump");
        Method raise = kind.getDeclaredMethod("raise", int.class);
        made.setAccessible(true);
        values.setAccessible(true);
        bump.setAccessible(true);
        raise.setAccessible(true);
        for (float by : new float[] {0.5f, 1f, Math.nextUp(1f), 1.0001f, 2f}) {
            for (int letter = 0; letter < 6; letter++) {
                Object x = made.newInstance();
                float[] row = (float[]) values.get(x);
                row[letter] = 999f;
                row[(letter + 1) % 6] = 7f;
                row[(letter + 2) % 6] = 1000f;
                bump.setFloat(x, by);
                raise.invoke(x, 1 << letter);
                boolean above = 999f + by > 1000f;
                float scale = above ? 0.001f : 1f;
                due.is("it", Float.floatToIntBits(row[letter]), Float.floatToIntBits((999f + by) * scale));
                due.is("another", Float.floatToIntBits(row[(letter + 1) % 6]), Float.floatToIntBits(7f * scale));
                due.is("one of 1000", Float.floatToIntBits(row[(letter + 2) % 6]), Float.floatToIntBits(1000f * scale));
                due.is("BUMP", Float.floatToIntBits(bump.getFloat(x)), Float.floatToIntBits(by * 1.5f * scale));
            }
        }
    }
}

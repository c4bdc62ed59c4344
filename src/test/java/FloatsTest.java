import java.lang.reflect.Method;
import java.util.Random;

/** Promises 26 and 55: the bits of floats, which the program works out by itself, down to the least. */
final class FloatsTest {
    private static final Due due = new Due();

    public static void main(String[] args) throws Exception {
        Class<?> bits = null;
        for (Class<?> c : FencedStates.class.getDeclaredClasses()) {
            bits = c.getSimpleName().equals("FloatBits") ? c : bits;
        }
        Method ofFloat = bits.getDeclaredMethod("ofFloat", float.class);
        Method ofDouble = bits.getDeclaredMethod("ofDouble", double.class);
        ofFloat.setAccessible(true);
        ofDouble.setAccessible(true);
        float[] edges = {0f, Float.MIN_VALUE, Float.MIN_NORMAL, Math.nextDown(Float.MIN_NORMAL), 1f, Math.nextDown(1f),
            2f, Math.nextDown(2f), 1000f, Math.nextUp(1000f), Float.MAX_VALUE, 0.001f, 1.5f};
        for (float f : edges) {
            due.is("bits of " + f, (int) ofFloat.invoke(null, f), Float.floatToIntBits(f));
        }
        double[] doubles = {0, Double.MIN_VALUE, Double.MIN_NORMAL, 1, Math.nextDown(1.0), 2, Double.MAX_VALUE, 1 / 3.0};
        for (double d : doubles) {
            due.is("bits of " + d, (long) ofDouble.invoke(null, d), Double.doubleToLongBits(d));
        }
        Random random = new Random(7);
        for (int n = 0; n < 200000; n++) {
            float f = Float.intBitsToFloat(random.nextInt() & 0x7fffffff);
            if (f <= Float.MAX_VALUE) {
                due.is("bits of " + f, (int) ofFloat.invoke(null, f), Float.floatToIntBits(f));
            }
            double d = (double) random.nextInt(3000000) / (double) (1 + random.nextInt(256000));
            due.is("bits of " + d, (long) ofDouble.invoke(null, d), Double.doubleToLongBits(d));
        }
        due.end();
    }
}

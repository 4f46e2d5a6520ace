import java.lang.reflect.Method;
import java.util.Random;

/** No call throws, whatever its arguments and whatever came before it. */
public final class WildTest {
    private static final int RUNS = 300;
    private static final int CALLS = 512;
    private static final int[] WILD = {Integer.MIN_VALUE, Integer.MIN_VALUE + 1, -1000000, -61, -2, -1, 5, 12, 48,
        60, 255, 256, 1 << 16, 1 << 30, Integer.MAX_VALUE - 3, Integer.MAX_VALUE};

    public static void main(String[] args) throws Exception {
        for (int run = 0; run < RUNS; run++) {
            Random random = new Random(run);
            CornerHeaps x = new CornerHeaps();
            for (int n = 0; n < CALLS; n++) {
                oneCall(x, random, run);
            }
        }
        Checks.finish();
    }

    private static void oneCall(CornerHeaps x, Random random, int run) throws Exception {
        Method[] methods = CornerHeaps.class.getMethods();
        Method method = methods[random.nextInt(methods.length)];
        if (method.getDeclaringClass() != CornerHeaps.class) {
            return;
        }
        Object[] values = new Object[method.getParameterCount()];
        for (int k = 0; k < values.length; k++) {
            values[k] = random.nextInt(6) == 0 ? WILD[random.nextInt(WILD.length)] : random.nextInt(5);
        }
        String call = "run " + run + ": " + method.getName() + java.util.Arrays.toString(values);
        try {
            long answer = ((Number) method.invoke(x, values)).longValue();
            Checks.holds(call + " answered " + answer, answer >= 0 || answer <= CornerHeaps.NONE);
        } catch (java.lang.reflect.InvocationTargetException thrown) {
            Checks.holds(call + " threw " + thrown.getCause(), false);
        }
    }
}

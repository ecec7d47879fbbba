import java.lang.reflect.InvocationTargetException;
import java.lang.reflect.Method;
import java.util.Arrays;
import java.util.Comparator;
import java.util.Random;

/** No call throws, whatever comes, and the same calls give the same answers. */
public final class WildTest {
    private static final Checks c = new Checks("WildTest");
    private static final int[] EDGES = {-2147483648, -2147483647, -10000000, -9999999, -100000, -2, -1, 0, 1, 2, 3, 4,
        5, 6, 7, 8, 9, 10, 19, 20, 21, 23, 24, 30, 39, 40, 59, 60, 99, 100, 101, 255, 511, 580, 600, 601, 999, 1000,
        9999, 10000, 19999, 20000, 999999, 1000000, 9999999, 10000000, 16777215, 16777216, 2147483646, 2147483647};

    public static void main(String[] args) throws Exception {
        Method[] face = Arrays.stream(SleepOffice.class.getMethods())
            .filter(m -> m.getDeclaringClass() == SleepOffice.class)
            .sorted(Comparator.comparing(Method::getName)).toArray(Method[]::new);
        c.due("methods of the face", face.length, 33);
        for (int seed = 0; seed < 400; seed++) {
            run(face, seed);
        }
        c.finish();
    }

    private static void run(Method[] face, int seed) throws Exception {
        Random random = new Random(seed);
        SleepOffice x = new SleepOffice();
        SleepOffice again = new SleepOffice();
        // Beyond 512 calls the answers are free, but still none may throw.
        for (int i = 0; i < 1500; i++) {
            Method method = face[random.nextInt(face.length)];
            Object[] args = new Object[method.getParameterCount()];
            for (int k = 0; k < args.length; k++) {
                args[k] = one(random, seed);
            }
            String call = "run " + seed + ": " + method.getName() + Arrays.toString(args);
            try {
                c.due(call, method.invoke(x, args).equals(method.invoke(again, args)), true);
            } catch (InvocationTargetException e) {
                c.due(call + " threw " + e.getCause(), 1, 0);
                return;
            }
        }
    }

    private static int one(Random random, int seed) {
        int sort = random.nextInt(10);
        if (sort < seed % 10) {
            return random.nextInt(9) - 1;
        }
        return sort < 9 ? EDGES[random.nextInt(EDGES.length)] : random.nextInt();
    }
}

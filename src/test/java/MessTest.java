import java.lang.reflect.Method;
import java.lang.reflect.Modifier;
import java.util.Arrays;
import java.util.Comparator;
import java.util.Random;

/** Any arguments in any state: no call throws, and the same calls answer the same. */
public final class MessTest {
    private static final int[] EDGES = {Integer.MIN_VALUE, -2, -1, 0, 1, 2, 3, 4, 5, 7, 8, 9, 20, 30, 31, 60, 61, 99,
        100, 1400, 2_000_000_000, 2_000_000_001, Integer.MAX_VALUE};

    public static void main(String[] args) throws Exception {
        Checks checks = new Checks("MessTest");
        Method[] calls = Arrays.stream(LevelSunday.class.getDeclaredMethods())
                .filter(m -> Modifier.isPublic(m.getModifiers())).sorted(Comparator.comparing(Method::getName))
                .toArray(Method[]::new);
        for (int run = 0; run < 400; run++) {
            checks.due("run " + run, run(calls, run, checks), run(calls, run, checks));
        }
        checks.finish();
    }

    private static long run(Method[] calls, int seed, Checks checks) {
        Random chance = new Random(seed);
        LevelSunday x = new LevelSunday();
        long sum = 0;
        for (int n = 0; n < 512; n++) {
            if (chance.nextInt(40) == 0) {
                x.end(0);
                Checks.read(x, Plain.any(chance).text());
            }
            Method m = calls[chance.nextInt(calls.length)];
            Object[] arguments = new Object[m.getParameterCount()];
            for (int i = 0; i < arguments.length; i++) {
                int number = chance.nextInt(3) == 0 ? EDGES[chance.nextInt(EDGES.length)] : chance.nextInt(6) - 1;
                number = chance.nextInt(50) == 0 ? chance.nextInt() : number;
                arguments[i] = m.getParameterTypes()[i] == long.class ? (Object) (long) number : (Object) number;
            }
            try {
                sum = 31 * sum + (Integer) m.invoke(x, arguments);
            } catch (ReflectiveOperationException e) {
                checks.isTrue(m.getName() + Arrays.toString(arguments) + " threw " + e.getCause(), false);
            }
        }
        return sum;
    }
}

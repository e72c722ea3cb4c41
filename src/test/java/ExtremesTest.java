import java.lang.reflect.Method;
import java.util.Arrays;
import java.util.Comparator;
import java.util.Random;

/** Runs of calls with numbers from anywhere: none throws, and told() tells each ERROR that was answered. */
public final class ExtremesTest {
    private static final long LOW = -1000000000L;
    private static final int MIN = Integer.MIN_VALUE;
    private static final int MAX = Integer.MAX_VALUE;
    private static final int[] NUMBERS = {MIN, MIN + 1, -1000000003, -65536, -65, -10, -2, -1, 0, 0, 0, 1, 1, 1, 2, 2, 3, 3, 4, 5, 6, 7,
        8, 9, 10, 12, 16, 20, 27, 32, 40, 50, 63, 64, 65, 69, 70, 80, 81, 200, 201, 255, 256, 9999, 10000, 65536, 1 << 30, MAX - 1, MAX};

    private static final Method[] ACTS = acts();

    public static void main(String[] args) throws Exception {
        int runs = args.length > 0 ? Integer.parseInt(args[0]) : 300;
        for (int seed = 1; seed <= runs; seed++) {
            run(new Random(seed), "seed " + seed);
        }
        Due.end("ExtremesTest");
    }

    private static Method[] acts() {
        Method[] acts = Arrays.stream(AlikeTown.class.getMethods())
            .filter(m -> m.getDeclaringClass() == AlikeTown.class).toArray(Method[]::new);
        Arrays.sort(acts, Comparator.comparing(Method::getName));
        return acts;
    }

    private static void run(Random random, String what) throws Exception {
        AlikeTown x = new AlikeTown();
        long[] errors = new long[6];
        int limit = random.nextInt(3) == 0 ? NUMBERS.length : 37;
        int least = random.nextInt(3) == 0 ? 0 : 7;
        for (int i = 0; i < 507; i++) {
            Method act = ACTS[random.nextInt(ACTS.length)];
            Object[] numbers = new Object[act.getParameterCount()];
            for (int j = 0; j < numbers.length; j++) {
                int v = NUMBERS[least + random.nextInt(limit - least)];
                numbers[j] = act.getParameterTypes()[j] == long.class ? (Object) random.nextLong() : (Object) v;
            }
            long answer = ((Number) act.invoke(x, numbers)).longValue();
            if (answer < LOW && !isAnyNumber(act.getName(), numbers)) {
                Due.holds(what + " " + act.getName() + " " + Arrays.toString(numbers) + " answered " + answer, answer >= LOW - 5);
                errors[(int) Math.min(5, LOW - answer)]++;
            }
        }
        countVoices(x, errors, what);
    }

    /** seed(), voice() and z answer any number: told() is asked, not the number. */
    private static boolean isAnyNumber(String act, Object[] numbers) {
        return act.equals("seed") || act.equals("voice") || (act.equals("count") && numbers[0].equals(11));
    }

    private static void countVoices(AlikeTown x, long[] errors, String what) {
        for (int k = 1; k <= 5; k++) {
            long told = x.told(k);
            boolean mayBeVoices = k <= 2;
            Due.holds(what + " told " + k + " " + told + " of " + errors[k], mayBeVoices ? told >= errors[k] : told == errors[k]);
        }
    }
}

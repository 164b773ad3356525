import java.lang.reflect.InvocationTargetException;
import java.lang.reflect.Method;
import java.util.ArrayList;
import java.util.Arrays;
import java.util.Comparator;
import java.util.List;
import java.util.Random;

/** No call ever throws, whatever its arguments are and whatever came before it; and like calls are answered alike. */
public final class AnyCallTests {
    private static final int[] POOL = {
        Integer.MIN_VALUE, Integer.MIN_VALUE + 1, -1000000, -101, -100, -14, -11, -10, -3, -2, -1, 0, 0, 0, 1, 1, 1, 2, 2, 3, 3, 4, 5, 6, 7,
        8, 9, 10, 11, 12, 13, 20, 21, 22, 23, 24, 25, 30, 31, 32, 33, 40, 47, 48, 49, 50, 51, 52, 53, 54, 59, 60, 61, 97, 98, 99, 100, 101,
        119, 120, 121, 124, 125, 201, 255, 256, 324, 511, 512, 999, 1000, 1123, 1124, 1200, 3024, 3025, 4095, 4096, 9998, 9999, 10000,
        32767, 32768, 65535, 65536, Integer.MAX_VALUE - 1, Integer.MAX_VALUE,
    };
    private static final String SIGNS = "awifmn0123456789!-()|&<=>+*/%?;aaaa+-*wn";

    private final List<Method> methods = new ArrayList<>();
    private final Due due = new Due();

    public static void main(String[] args) throws Exception {
        AnyCallTests t = new AnyCallTests();
        for (Method m : ThoughtsDrip.class.getMethods()) {
            if (m.getDeclaringClass() == ThoughtsDrip.class) {
                t.methods.add(m);
            }
        }
        t.methods.sort(Comparator.comparing(Method::getName));
        t.due.is("methods", t.methods.size(), 42);
        for (int run = 0; run < 200 && t.due.wrong() == 0; run++) {
            t.run(run);
        }
        t.due.end("AnyCallTests");
    }

    private void run(int seed) throws Exception {
        Random random = new Random(seed);
        ThoughtsDrip x = new ThoughtsDrip();
        ThoughtsDrip twin = new ThoughtsDrip();
        int begun = 0;
        if (seed % 4 > 0) {
            begun = settle(new Random(seed), x);
            settle(new Random(seed), twin);
        }
        for (int k = begun; k < 512; k++) {
            Method m = methods.get(random.nextInt(methods.size()));
            Object[] args = new Object[m.getParameterCount()];
            for (int i = 0; i < args.length; i++) {
                int v = any(random, m.getName());
                args[i] = m.getParameterTypes()[i] == long.class ? (Object) ((long) v * (random.nextBoolean() ? 1 : 4294967297L)) : (Object) v;
            }
            try {
                Object first = m.invoke(x, args);
                due.holds("run " + seed + ", call " + k + ": " + m.getName() + " is answered alike", first.equals(m.invoke(twin, args)));
            } catch (InvocationTargetException e) {
                due.holds("run " + seed + ", call " + k + ": " + m.getName() + Arrays.toString(args) + " threw " + e.getCause(), false);
                return;
            }
        }
    }

    private static int any(Random random, String name) {
        if (name.equals("feed") && random.nextInt(20) > 0) {
            return SIGNS.charAt(random.nextInt(SIGNS.length()));
        }
        int chance = random.nextInt(10);
        return chance == 0 ? random.nextInt() : chance < 5 ? random.nextInt(13) - 1 : POOL[random.nextInt(POOL.length)];
    }

    /** Six of PEOPLE who think, a law, BODIES and ROWS; how many calls it took. */
    private static int settle(Random random, ThoughtsDrip x) {
        int calls = 0;
        for (int p = 0; p < 6; p++) {
            x.person(random.nextInt(24), random.nextInt(4096));
            x.mend(10 * p + random.nextInt(4), 2, random.nextInt(10));
            x.body(random.nextInt(8));
            x.row(p, random.nextInt(3) % 2, 4 + random.nextInt(2) * 8);
            calls += 4;
        }
        String text = "n>1?a-w/2;a*3/4-i%(f+m-3)";
        for (int k = 0; k < text.length(); k++) {
            x.feed(text.charAt(k));
            calls++;
        }
        x.law();
        return calls + 1;
    }
}

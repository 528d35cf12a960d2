import java.lang.reflect.Method;
import java.lang.reflect.Modifier;
import java.util.ArrayList;
import java.util.Comparator;
import java.util.List;
import java.util.Random;
import java.util.Set;

/** No call throws, for any arguments in any state; the refused ones change nothing that can be asked. */
public final class AnyArgumentTests {
    private static final int RUNS = 700, CALLS = 400, SOUND = 8;
    private static final int[] ODD = {Integer.MIN_VALUE, Integer.MIN_VALUE + 1, -1000000001, -100, -2, -1, 0, 1, 2, 3, 4, 5,
        6, 7, 8, 9, 10, 14, 15, 19, 20, 21, 39, 40, 41, 59, 60, 61, 100, 101, 199, 200, 201, 511, 512, 999, 1000, 9999, 10000,
        99999, 100000, 999999999, 1000000000, 1000000001, Integer.MAX_VALUE - 1, Integer.MAX_VALUE};
    /** Of these an answer below 0 isn't (only) a refusal that changes nothing. */
    private static final Set<String> TOLD_OTHERWISE = Set.of("law", "act", "walks", "item", "alterRow");

    public static void main(String[] args) throws Exception {
        List<Method> methods = new ArrayList<>();
        for (Method m : DoubledBridge.class.getDeclaredMethods()) {
            if (Modifier.isPublic(m.getModifiers())) {
                methods.add(m);
            }
        }
        methods.sort(Comparator.comparing(Method::getName));
        long calls = 0;
        long refused = 0;
        for (int run = 0; run < RUNS; run++) {
            Random random = new Random(run);
            DoubledBridge x = new DoubledBridge();
            // Gets the calls that weren't refused alone.
            DoubledBridge twin = new DoubledBridge();
            for (int i = 0; i < CALLS; i++) {
                Method m = methods.get(random.nextInt(methods.size()));
                Object[] with = any(m, random);
                if (i < SOUND) {
                    m = i % 2 == 0 ? DoubledBridge.class.getMethod("person", int.class)
                        : DoubledBridge.class.getMethod("bridge", int.class, int.class, int.class, int.class);
                    with = i % 2 == 0 ? new Object[] {random.nextInt(100)}
                        : new Object[] {1 + random.nextInt(5), 1 + random.nextInt(9), random.nextInt(30), random.nextInt(7)};
                }
                long answer = ((Number) m.invoke(x, with)).longValue();
                calls++;
                if (answer < 0 && !TOLD_OTHERWISE.contains(m.getName())) {
                    refused++;
                } else if (((Number) m.invoke(twin, with)).longValue() != answer) {
                    fail(run, m.getName() + " answers otherwise where nothing was refused ahead of it");
                }
            }
            if (!told(x).equals(told(twin))) {
                fail(run, "the refused calls changed\n" + told(twin) + "to\n" + told(x));
            }
        }
        System.out.println(calls + " calls with any arguments, " + refused + " of them refused, none threw");
    }

    private static void fail(int run, String what) {
        System.out.println("run " + run + ": " + what);
        System.exit(1);
    }

    private static Object[] any(Method m, Random random) {
        Object[] with = new Object[m.getParameterCount()];
        for (int k = 0; k < with.length; k++) {
            int v = random.nextInt(3) == 0 ? ODD[random.nextInt(ODD.length)] : random.nextInt(6);
            with[k] = m.getParameterTypes()[k] == long.class ? (Object) random.nextLong() : (Object) v;
        }
        return with;
    }

    private static String told(DoubledBridge x) {
        StringBuilder all = new StringBuilder();
        for (int i = 0; i < 9; i++) {
            for (int what = 0; what < 7; what++) {
                all.append(x.bridgeOf(i, what)).append(' ');
            }
            all.append(x.personOf(i, i % 3)).append(' ').append(x.row(i, i % 3)).append(' ');
            all.append(x.many(i % 7)).append(' ').append(x.trace(i)).append(' ').append(x.taken(i % 4, 0)).append('\n');
        }
        return all.toString();
    }
}

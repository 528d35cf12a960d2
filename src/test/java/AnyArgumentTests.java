import java.lang.reflect.Method;
import java.util.ArrayList;
import java.util.Comparator;
import java.util.List;
import java.util.Random;

/** No call throws, for any arguments in any state; a refused one changes nothing that can be asked. */
public final class AnyArgumentTests {
    private static final int[] ODD = {Integer.MIN_VALUE, Integer.MIN_VALUE + 1, -1000000001, -100, -2, -1, 0, 1, 2, 3, 4, 5,
        6, 7, 8, 9, 10, 14, 15, 19, 20, 21, 39, 40, 41, 59, 60, 61, 100, 101, 199, 200, 201, 511, 512, 999, 1000, 9999, 10000,
        99999, 100000, 999999999, 1000000000, 1000000001, Integer.MAX_VALUE - 1, Integer.MAX_VALUE};

    public static void main(String[] args) throws Exception {
        List<Method> methods = new ArrayList<>();
        for (Method m : DoubledBridge.class.getDeclaredMethods()) {
            if (java.lang.reflect.Modifier.isPublic(m.getModifiers())) {
                methods.add(m);
            }
        }
        methods.sort(Comparator.comparing(Method::getName));
        long calls = 0;
        for (int run = 0; run < 400; run++) {
            Random random = new Random(run);
            DoubledBridge x = new DoubledBridge();
            for (int i = 0; i < 512; i++) {
                Method m = methods.get(random.nextInt(methods.size()));
                Object[] with = new Object[m.getParameterCount()];
                for (int k = 0; k < with.length; k++) {
                    int v = random.nextInt(3) == 0 ? ODD[random.nextInt(ODD.length)] : random.nextInt(6);
                    with[k] = m.getParameterTypes()[k] == long.class ? (Object) random.nextLong() : (Object) v;
                }
                if (random.nextInt(20) == 0) {
                    x.bridge(1 + random.nextInt(5), 1 + random.nextInt(9), random.nextInt(30), random.nextInt(7));
                    x.person(random.nextInt(100));
                }
                String ahead = told(x);
                boolean isRefused = ((Number) m.invoke(x, with)).longValue() == -1 && !m.getName().equals("item")
                    && !m.getName().equals("act") && !m.getName().equals("alterRow");
                if (isRefused && !ahead.equals(told(x))) {
                    System.out.println("run " + run + ": a refused " + m.getName() + " changed " + ahead + " to " + told(x));
                    System.exit(1);
                }
                calls++;
            }
        }
        System.out.println(calls + " calls with any arguments, none threw");
    }

    private static String told(DoubledBridge x) {
        StringBuilder all = new StringBuilder();
        for (int i = 0; i < 9; i++) {
            for (int what = 0; what < 7; what++) {
                all.append(x.bridgeOf(i, what)).append(' ').append(what < 3 ? x.personOf(i, what) : x.row(i, what - 4)).append(' ');
            }
            all.append(x.many(i % 7)).append(' ').append(x.trace(i)).append(' ').append(x.taken(i % 4, 0)).append('\n');
        }
        return all.toString();
    }
}

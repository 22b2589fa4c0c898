import java.lang.reflect.Method;
import java.util.ArrayList;
import java.util.Arrays;
import java.util.Comparator;
import java.util.List;
import java.util.Random;

/** Random runs of calls (fixed seeds) on SunRings and on PlainRings, answer by answer. */
public final class RandomRunsTest {
    private static final int RUNS = Integer.getInteger("runs", 60), CALLS = 512;
    private static final int[] ODD = {
        Integer.MIN_VALUE, Integer.MAX_VALUE, -1, -2, 4, 5, 6, 7, 12, 16, 41, -61, 65536, 901, 1201, 1801, 1 << 30};
    private static final int[] WEDGES = {200, 250, 300, 500, 599, 600, 601, 602, 700, 800, 900, 900, 990, 1000, 1200};

    private final Random random;

    private RandomRunsTest(long seed) {
        random = new Random(seed);
    }

    public static void main(String[] args) throws Exception {
        int wrong = 0;
        for (int run = 0; run < RUNS; run++) {
            wrong += new RandomRunsTest(run).run(run);
        }
        System.out.println(wrong == 0 ? "RandomRunsTest: all alike" : "RandomRunsTest: " + wrong + " runs differ");
        if (wrong != 0) System.exit(1);
    }

    private int run(int run) throws Exception {
        SunRings real = new SunRings();
        PlainRings plain = new PlainRings();
        List<Method> calls = calls();
        int dear = 0;
        for (int n = 0; n < CALLS; n++) {
            Method m = calls.get(random.nextInt(calls.size()));
            if (isDear(m.getName())) {
                if (dear++ > 25) continue;
            }
            Object[] args = m.getName().equals("mark") && random.nextInt(8) != 0
                    ? markNearLight(plain) : arguments(m.getName(), m.getParameterCount());
            long got = ((Number) m.invoke(real, args)).longValue();
            Method p = PlainRings.class.getDeclaredMethod(m.getName(), m.getParameterTypes());
            p.setAccessible(true);
            long want = ((Number) p.invoke(plain, args)).longValue();
            if (got != want) {
                System.out.println("run " + run + " call " + n + ": " + m.getName() + Arrays.toString(args)
                        + " answered " + got + ", due is " + want);
                return 1;
            }
        }
        goOn(real, calls);
        return 0;
    }

    /** What calls beyond the 512th answer is free, but none may throw or fail to end (LANGUAGE.md 7). */
    private void goOn(SunRings real, List<Method> calls) throws Exception {
        for (int n = 0; n < CALLS; n++) {
            Method m = calls.get(random.nextInt(calls.size()));
            m.invoke(real, arguments(m.getName(), m.getParameterCount()));
        }
    }

    private static boolean isDear(String name) {
        return List.of("heights", "never", "maker", "fewest", "explains", "owed", "made").contains(name);
    }

    private List<Method> calls() {
        List<Method> all = new ArrayList<>();
        for (Method m : SunRings.class.getDeclaredMethods()) {
            if (!java.lang.reflect.Modifier.isPublic(m.getModifiers())) continue;
            for (int n = often(m.getName()); n > 0; n--) all.add(m);
        }
        all.sort(Comparator.comparing(Method::getName));
        return all;
    }

    private static int often(String name) {
        switch (name) {
            case "noWedges": case "wipe": return 1;
            case "wedge": case "mark": case "day": case "light": case "cut": return 6;
            default: return 3;
        }
    }

    private Object[] arguments(String name, int n) {
        Object[] args = new Object[n];
        for (int k = 0; k < n; k++) {
            args[k] = random.nextInt(40) == 0 ? ODD[random.nextInt(ODD.length)] : likely(name, k);
        }
        return args;
    }

    /** Marks drawn blindly are nearly always NEVER: most are drawn after a light that is there. */
    private Object[] markNearLight(PlainRings plain) {
        return markNearLight(plain, 50 * from(0, 14));
    }

    private Object[] markNearLight(PlainRings plain, int h) {
        int cause = from(0, 15);
        int all = plain.light(cause, h, -1, 0);
        if (all < 1) return arguments("mark", 4);
        int i = from(0, all - 1);
        int doubt = from(0, 20);
        int angle = plain.light(cause, h, i, 2 + from(0, 1)) + from(-doubt - 1, doubt + 1);
        return new Object[] {
            random.nextInt(4) == 0 ? -1 : plain.light(cause, h, i, 0),
            random.nextInt(4) == 0 ? -1 : plain.light(cause, h, i, 1), angle, doubt};
    }

    private int from(int a, int b) {
        return a + random.nextInt(b - a + 1);
    }

    private int angle() {
        return random.nextInt(3) == 0 ? 50 * from(0, 18) : from(0, 900);
    }

    private int set() {
        return random.nextInt(3) == 0 ? from(0, 65535) : 1 << from(0, 15) | 1 << from(0, 15);
    }

    private int wedgeAngle() {
        return random.nextInt(3) == 0 ? from(199, 1201) : WEDGES[random.nextInt(WEDGES.length)];
    }

    /** A number that is told, or just beside, for the k-th argument of a call. */
    private int likely(String name, int k) {
        switch (name) {
            case "table": return k == 0 ? from(0, 2) : k == 1 ? from(1, 9) : from(0, 600);
            case "rule": return k == 0 ? from(0, 4) : random.nextInt(2) == 0 ? from(-101, 101) : from(0, 9001);
            case "inside": case "outside": return k == 0 ? from(0, 2) : k == 1 ? from(0, 3) : angle();
            case "ray": return k == 0 ? from(0, 5) : k == 1 ? from(0, 3) : k == 2 ? angle() : from(0, 4);
            case "map": return k == 0 ? from(0, 3) : k == 1 ? from(0, 3) : from(0, 180);
            case "bow": return k == 0 ? from(0, 5) : k == 1 ? from(0, 3) : k == 2 ? angle() : from(0, 2);
            case "dark": return from(0, 4);
            case "wedge": return k == 0 ? from(0, 3) : wedgeAngle();
            case "noWedges": return from(0, 3);
            case "turned": return k == 0 ? wedgeAngle() : k == 1 ? from(0, 3) : angle();
            case "ring": return k == 0 ? wedgeAngle() : from(0, 3);
            case "light": return k == 0 ? from(0, 15) : k == 1 ? angle() : k == 2 ? from(-1, 5) : from(0, 3);
            case "mark": return k == 2 ? from(0, 1800) : k == 3 ? from(0, 200) : from(-1, 3);
            case "explains": case "owed": case "made": return k == 0 ? set() : angle();
            case "heights": return k == 0 ? set() : from(-1, 6);
            case "cut": return k == 0 ? from(0, 11) : from(-1, 1);
            case "day": return k == 0 ? from(-60, 40) : k == 1 ? from(0, 3) : set();
            case "odds": return k == 0 ? from(0, 15) : k == 1 ? from(-60, 0) : k == 2 ? from(-10, 40)
                    : k == 3 ? from(-1, 3) : from(0, 1);
            case "together": return from(0, 15);
            case "count": return from(0, 5);
            default: return angle();
        }
    }
}

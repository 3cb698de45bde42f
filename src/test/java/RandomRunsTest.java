import java.lang.reflect.InvocationTargetException;
import java.lang.reflect.Method;
import java.util.ArrayList;
import java.util.Arrays;
import java.util.Comparator;
import java.util.HashMap;
import java.util.List;
import java.util.Map;
import java.util.Random;

/** Runs of 512 calls, drawn by fixed seeds, on CurveFoundry and on SlowFoundry: each answer must be the same. */
public final class RandomRunsTest {
    private static final int RUNS = 400;
    private static final int CALLS = 512;
    private static final int[] EXTREMES = {Integer.MIN_VALUE, Integer.MIN_VALUE + 1, -1000001, -1000000, -10001, -10000,
        -1, 0, 1, 4095, 4096, 10000, 10001, 1000000, 1000001, Integer.MAX_VALUE - 1, Integer.MAX_VALUE};
    private static final int[] STEPS = {16, 64, 256, 16, 64, 256, 0, -16, 32, 128, 4096};

    /** What each parameter is, by the method's name. */
    private static final Map<String, String> KINDS = new HashMap<>();

    static {
        KINDS.put("reading", "sensor count reference weight");
        KINDS.put("drop", "sensor index");
        KINDS.put("line", "sensor");
        KINDS.put("knot", "rising reference");
        KINDS.put("hush", "");
        KINDS.put("pieces", "");
        KINDS.put("gather", "sensor");
        KINDS.put("clamp", "curve low high");
        KINDS.put("dead", "curve low high value");
        KINDS.put("chain", "curve curve");
        KINDS.put("gain", "curve up down value");
        KINDS.put("mirror", "curve");
        KINDS.put("value", "curve count");
        KINDS.put("about", "curve what");
        KINDS.put("turn", "curve index");
        KINDS.put("inverse", "curve value");
        KINDS.put("residual", "sensor index curve");
        KINDS.put("worst", "sensor curve");
        KINDS.put("squares", "sensor curve");
        KINDS.put("drift", "sensor curve");
        KINDS.put("probe", "four curve three window");
        KINDS.put("feed", "four count");
        KINDS.put("probed", "four");
        KINDS.put("table", "four curve step");
        KINDS.put("entry", "four entry");
        KINDS.put("lookup", "four count");
        KINDS.put("off", "four");
        KINDS.put("offAt", "four");
        KINDS.put("bank", "bank size");
        KINDS.put("free", "bank");
        KINDS.put("hold", "bank place long");
        KINDS.put("held", "bank place");
        KINDS.put("readings", "sensor");
        KINDS.put("count", "what");
    }

    private final Random random;
    private final CurveFoundry fast = new CurveFoundry();
    private final SlowFoundry slow = new SlowFoundry();
    private final int spread;

    private RandomRunsTest(long seed) {
        random = new Random(seed);
        spread = 1 + random.nextInt(8);
    }

    private int between(int low, int high) {
        return low + random.nextInt(high - low + 1);
    }

    private int of(int[] row) {
        return row[random.nextInt(row.length)];
    }

    private int draw(String kind, int before) {
        if (random.nextInt(40) == 0) {
            return of(EXTREMES);
        }
        switch (kind) {
            case "sensor": return between(0, random.nextInt(10) == 0 ? 8 : spread - 1);
            case "count": return random.nextInt(4) == 0 ? between(0, 12) : between(0, 4095);
            case "rising": return Math.max(-1, slowLastKnot()) + between(0, random.nextBoolean() ? 40 : 700);
            case "reference": return random.nextBoolean() ? between(-40, 40) : between(-10000, 10000);
            case "weight": return between(0, 21);
            case "index": return between(-1, random.nextInt(6) == 0 ? 100 : 6);
            case "curve": return between(random.nextInt(12) == 0 ? -1 : 0, Math.max(0, slow.count(0) - random.nextInt(9) / 8));
            case "low": return value();
            case "high": return random.nextInt(9) == 0 ? before - 1 : (int) Math.min(Integer.MAX_VALUE, (long) before + Math.abs(value()));
            case "value": return value();
            case "up": return between(-5, 5) * (random.nextInt(5) == 0 ? 201 : 1);
            case "down": return random.nextInt(5) == 0 ? between(-1, 1001) : between(1, 6);
            case "what": return between(-1, 6);
            case "four": return between(-1, 4);
            case "three": return between(0, 3);
            case "window": return between(0, 10);
            case "step": return of(STEPS);
            case "entry": return between(-1, random.nextBoolean() ? 18 : 258);
            case "bank": return between(-1, 8);
            case "size": return between(-2, random.nextInt(3) == 0 ? 66 : 5);
            case "place": return between(-1, random.nextInt(9) == 0 ? 65 : 4);
            default: throw new AssertionError(kind);
        }
    }

    private int lastKnot = -1;

    private int slowLastKnot() {
        return slow.count(1) == 0 ? -1 : lastKnot;
    }

    private int value() {
        int size = of(new int[] {5, 50, 4200, 20000, 1000100});
        return between(-size, size);
    }

    private Object[] arguments(Method m) {
        String[] kinds = KINDS.get(m.getName()).split(" ");
        Object[] drawn = new Object[m.getParameterCount()];
        int before = 0;
        for (int i = 0; i < drawn.length; i++) {
            if (kinds[i].equals("long")) {
                drawn[i] = random.nextLong() >> random.nextInt(64);
            } else {
                before = draw(kinds[i], before);
                drawn[i] = before;
            }
        }
        return drawn;
    }

    private void run(List<Method> methods, long seed) throws Exception {
        for (int i = 0; i < CALLS; i++) {
            Method m = methods.get(random.nextInt(methods.size()));
            Object[] drawn = arguments(m);
            Object want = SlowFoundry.class.getMethod(m.getName(), m.getParameterTypes()).invoke(slow, drawn);
            Object got;
            try {
                got = m.invoke(fast, drawn);
            } catch (InvocationTargetException e) {
                got = e.getCause();
            }
            if (m.getName().equals("knot") && (Integer) want > 0) {
                lastKnot = (Integer) drawn[0];
            }
            String call = m.getName() + Arrays.toString(drawn);
            Check.holds("seed " + seed + ", call " + i + ": " + call + " answered " + got + ", due is " + want,
                got.equals(want));
        }
    }

    public static void main(String[] args) throws Exception {
        List<Method> methods = new ArrayList<>(Arrays.asList(CurveFoundry.class.getDeclaredMethods()));
        methods.removeIf(m -> !java.lang.reflect.Modifier.isPublic(m.getModifiers()));
        methods.sort(Comparator.comparing(Method::getName));
        List<Method> oftener = new ArrayList<>(methods);
        for (Method m : methods) {
            int more = m.getName().equals("knot") || m.getName().equals("reading") ? 7
                : "about feed hold turn inverse".contains(m.getName()) ? 2 : 0;
            for (int i = 0; i < more; i++) {
                oftener.add(m);
            }
        }
        int runs = args.length > 0 ? Integer.parseInt(args[0]) : RUNS;
        long from = args.length > 1 ? Long.parseLong(args[1]) : 0;
        for (long seed = from; seed < from + runs && Check.wrongs() < 20; seed++) {
            new RandomRunsTest(seed).run(oftener, seed);
        }
        Check.finish();
    }
}

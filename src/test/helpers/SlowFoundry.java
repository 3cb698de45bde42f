import java.math.BigDecimal;
import java.math.BigInteger;
import java.math.RoundingMode;
import java.util.ArrayList;
import java.util.Arrays;
import java.util.List;
import java.util.TreeMap;

/**
 * The document's words once more, in the plainest and slowest way and with the whole Java library, to hold
 * CurveFoundry against: fractions are BigIntegers, curves are asked anew each time, rows are of BigDecimals.
 */
public final class SlowFoundry {
    private interface Maker {
        BigInteger[] at(int x);
    }

    private static final class Curve {
        int sort;
        int work;
        Maker maker;
        int[] all;

        int at(int x) {
            BigInteger[] f = maker.at(x);
            return limit(halfEven(f[0], f[1])).intValueExact();
        }

        int[] all() {
            if (all == null) {
                all = new int[4096];
                for (int x = 0; x < 4096; x++) {
                    all[x] = at(x);
                }
            }
            return all;
        }
    }

    private static final class Probe {
        Curve curve;
        int filter = 0;
        int n = 1;
        List<Integer> fed = new ArrayList<>();
        int gave;
    }

    private static final class Table {
        Curve curve;
        int step;
    }

    private final List<List<int[]>> sensors = new ArrayList<>();
    private final List<int[]> knots = new ArrayList<>();
    private final List<Curve> curves = new ArrayList<>();
    private final Probe[] probes = new Probe[4];
    private final Table[] tables = new Table[4];
    private final Object[] rows = new Object[8];

    public SlowFoundry() {
        for (int i = 0; i < 8; i++) {
            sensors.add(new ArrayList<>());
        }
        for (int i = 0; i < 4; i++) {
            probes[i] = new Probe();
        }
    }

    private static BigInteger big(long v) {
        return BigInteger.valueOf(v);
    }

    private static BigInteger halfEven(BigInteger n, BigInteger d) {
        return new BigDecimal(n).divide(new BigDecimal(d), 0, RoundingMode.HALF_EVEN).toBigIntegerExact();
    }

    private static BigInteger limit(BigInteger v) {
        return v.max(big(-1000000)).min(big(1000000));
    }

    private static boolean in(int v, int low, int high) {
        return low <= v && v <= high;
    }

    private boolean sensor(int s) {
        return in(s, 0, 7);
    }

    private boolean curve(int c) {
        return in(c, 0, curves.size() - 1);
    }

    private static boolean isValue(int v) {
        return in(v, -1000000, 1000000);
    }

    private int add(int sort, int work, Maker maker) {
        if (work > 500 || curves.size() == 60) {
            return -2;
        }
        Curve c = new Curve();
        c.sort = sort;
        c.work = work;
        c.maker = maker;
        curves.add(c);
        return curves.size() - 1;
    }

    private static BigInteger[] whole(long v) {
        return new BigInteger[] {big(v), BigInteger.ONE};
    }

    public int reading(int s, int count, int reference, int weight) {
        if (!sensor(s) || !in(count, 0, 4095) || !in(reference, -10000, 10000) || !in(weight, 1, 20)
                || sensors.get(s).size() == 24) {
            return -2;
        }
        sensors.get(s).add(new int[] {count, reference, weight});
        return sensors.get(s).size();
    }

    public int drop(int s, int i) {
        if (!sensor(s) || !in(i, 0, sensors.get(s).size() - 1)) {
            return -2;
        }
        sensors.get(s).remove(i);
        return sensors.get(s).size();
    }

    /** From the two normal equations, A w + B wx = wr and A wx + B wxx = wxr, by Cramer's rule. */
    public int line(int s) {
        if (!sensor(s) || curves.size() == 60) {
            return -2;
        }
        if (sensors.get(s).stream().mapToInt(r -> r[0]).distinct().count() < 2) {
            return -3;
        }
        BigInteger w = big(0);
        BigInteger wx = big(0);
        BigInteger wxx = big(0);
        BigInteger wr = big(0);
        BigInteger wxr = big(0);
        for (int[] r : sensors.get(s)) {
            w = w.add(big(r[2]));
            wx = wx.add(big(r[2]).multiply(big(r[0])));
            wxx = wxx.add(big(r[2]).multiply(big(r[0])).multiply(big(r[0])));
            wr = wr.add(big(r[2]).multiply(big(r[1])));
            wxr = wxr.add(big(r[2]).multiply(big(r[0])).multiply(big(r[1])));
        }
        BigInteger d = w.multiply(wxx).subtract(wx.multiply(wx));
        BigInteger a = wr.multiply(wxx).subtract(wx.multiply(wxr));
        BigInteger b = w.multiply(wxr).subtract(wx.multiply(wr));
        return add(0, 1, x -> new BigInteger[] {a.add(b.multiply(big(x))), d});
    }

    public int knot(int count, int value) {
        boolean low = !knots.isEmpty() && count <= knots.get(knots.size() - 1)[0];
        if (!in(count, 0, 4095) || low || !in(value, -10000, 10000) || knots.size() == 32) {
            return -2;
        }
        knots.add(new int[] {count, value});
        return knots.size();
    }

    public int hush() {
        int n = knots.size();
        knots.clear();
        return n;
    }

    public int pieces() {
        if (knots.isEmpty() || curves.size() == 60) {
            return -2;
        }
        List<int[]> through = new ArrayList<>(knots);
        knots.clear();
        return add(1, 1, x -> between(through, x));
    }

    private static BigInteger[] between(List<int[]> through, int x) {
        int[] first = through.get(0);
        int[] last = through.get(through.size() - 1);
        if (x <= first[0]) {
            return whole(first[1]);
        }
        if (x >= last[0]) {
            return whole(last[1]);
        }
        for (int i = 1; i < through.size(); i++) {
            int[] p = through.get(i - 1);
            int[] q = through.get(i);
            if (x <= q[0]) {
                long d = q[0] - p[0];
                return new BigInteger[] {big((long) p[1] * (q[0] - x) + (long) q[1] * (x - p[0])), big(d)};
            }
        }
        throw new AssertionError();
    }

    public int gather(int s) {
        if (!sensor(s)) {
            return -2;
        }
        knots.clear();
        TreeMap<Integer, long[]> sums = new TreeMap<>();
        for (int[] r : sensors.get(s)) {
            long[] sum = sums.computeIfAbsent(r[0], k -> new long[2]);
            sum[0] += (long) r[2] * r[1];
            sum[1] += r[2];
        }
        sums.forEach((x, sum) -> knots.add(new int[] {x, halfEven(big(sum[0]), big(sum[1])).intValueExact()}));
        return knots.size();
    }

    public int clamp(int c, int low, int high) {
        if (!curve(c) || low > high || !isValue(low) || !isValue(high)) {
            return -2;
        }
        Curve of = curves.get(c);
        return add(2, 1 + of.work, x -> {
            int v = of.at(x);
            return whole(v < low ? low : v > high ? high : v);
        });
    }

    public int dead(int c, int first, int last, int rest) {
        if (!curve(c) || first > last || !isValue(first) || !isValue(last) || !isValue(rest)) {
            return -2;
        }
        Curve of = curves.get(c);
        return add(3, 1 + of.work, x -> {
            int v = of.at(x);
            return whole(in(v, first, last) ? rest : v);
        });
    }

    public int chain(int outer, int inner) {
        if (!curve(outer) || !curve(inner)) {
            return -2;
        }
        Curve o = curves.get(outer);
        Curve i = curves.get(inner);
        return add(4, 1 + o.work + i.work, x -> {
            int v = i.at(x);
            return whole(o.at(v < 0 ? 0 : v > 4095 ? 4095 : v));
        });
    }

    public int gain(int c, int up, int down, int more) {
        if (!curve(c) || !in(up, -1000, 1000) || !in(down, 1, 1000) || !isValue(more)) {
            return -2;
        }
        Curve of = curves.get(c);
        return add(5, 1 + of.work, x -> new BigInteger[] {
            halfEven(big(of.at(x)).multiply(big(up)), big(down)).add(big(more)), BigInteger.ONE});
    }

    public int mirror(int c) {
        if (!curve(c)) {
            return -2;
        }
        Curve of = curves.get(c);
        return add(6, 1 + of.work, x -> whole(of.at(4095 - x)));
    }

    public int value(int c, int x) {
        return !curve(c) || !in(x, 0, 4095) ? -2000000 : curves.get(c).at(x);
    }

    private static int trend(int[] v) {
        boolean flat = true;
        boolean rises = true;
        boolean falls = true;
        for (int x = 1; x < 4096; x++) {
            flat &= v[x] == v[0];
            rises &= !(v[x] < v[x - 1]);
            falls &= !(v[x] > v[x - 1]);
        }
        return flat ? 2 : rises ? 1 : falls ? -1 : 0;
    }

    /** Looks back from each COUNT to the latest change ahead of it, as the document says it. */
    private static List<Integer> turns(int[] v) {
        List<Integer> found = new ArrayList<>();
        for (int x = 1; x < 4096; x++) {
            if (v[x] == v[x - 1]) {
                continue;
            }
            for (int y = x - 1; y >= 1; y--) {
                if (v[y] != v[y - 1]) {
                    if ((v[y] > v[y - 1]) != (v[x] > v[x - 1])) {
                        found.add(x);
                    }
                    break;
                }
            }
        }
        return found;
    }

    public int about(int c, int what) {
        if (!curve(c) || !in(what, 0, 5)) {
            return -2000000;
        }
        Curve k = curves.get(c);
        switch (what) {
            case 0: return k.sort;
            case 1: return k.work;
            case 2: return trend(k.all());
            case 3: return turns(k.all()).size();
            case 4: return Arrays.stream(k.all()).min().getAsInt();
            default: return Arrays.stream(k.all()).max().getAsInt();
        }
    }

    public int turn(int c, int k) {
        if (!curve(c)) {
            return -2;
        }
        List<Integer> found = turns(curves.get(c).all());
        return in(k, 0, found.size() - 1) ? found.get(k) : -1;
    }

    public int inverse(int c, int v) {
        if (!curve(c)) {
            return -2;
        }
        int[] all = curves.get(c).all();
        if (trend(all) == 0) {
            return -1;
        }
        int best = 0;
        for (int x = 1; x < 4096; x++) {
            if (Math.abs((long) all[x] - v) < Math.abs((long) all[best] - v)) {
                best = x;
            }
        }
        return best;
    }

    public int residual(int s, int i, int c) {
        if (!sensor(s) || !in(i, 0, sensors.get(s).size() - 1) || !curve(c)) {
            return -2000000;
        }
        int[] r = sensors.get(s).get(i);
        return r[1] - curves.get(c).at(r[0]);
    }

    public int worst(int s, int c) {
        if (!sensor(s) || !curve(c)) {
            return -2;
        }
        int best = -1;
        for (int i = 0; i < sensors.get(s).size(); i++) {
            if (best < 0 || Math.abs(residual(s, i, c)) > Math.abs(residual(s, best, c))) {
                best = i;
            }
        }
        return best;
    }

    public long squares(int s, int c) {
        if (!sensor(s) || !curve(c)) {
            return -2;
        }
        BigInteger sum = big(0);
        for (int i = 0; i < sensors.get(s).size(); i++) {
            sum = sum.add(big(residual(s, i, c)).pow(2).multiply(big(sensors.get(s).get(i)[2])));
        }
        return sum.longValueExact();
    }

    public int drift(int s, int c) {
        if (!sensor(s) || !curve(c) || sensors.get(s).isEmpty()) {
            return -2000000;
        }
        BigInteger sum = big(0);
        BigInteger weight = big(0);
        for (int i = 0; i < sensors.get(s).size(); i++) {
            BigInteger w = big(sensors.get(s).get(i)[2]);
            sum = sum.add(big(residual(s, i, c)).multiply(w));
            weight = weight.add(w);
        }
        return halfEven(sum, weight).intValueExact();
    }

    public int probe(int p, int c, int filter, int n) {
        if (!in(p, 0, 3) || !curve(c) || !in(filter, 0, 2) || !in(n, 1, 9)) {
            return -2;
        }
        probes[p] = new Probe();
        probes[p].curve = curves.get(c);
        probes[p].filter = filter;
        probes[p].n = n;
        return 1;
    }

    public int feed(int p, int x) {
        if (!in(p, 0, 3) || !in(x, 0, 4095)) {
            return -2;
        }
        Probe q = probes[p];
        q.fed.add(x);
        List<Integer> latest = new ArrayList<>(q.fed.subList(Math.max(0, q.fed.size() - q.n), q.fed.size()));
        if (q.filter == 0) {
            q.gave = x;
        } else if (q.filter == 1) {
            latest.sort(null);
            q.gave = latest.get((latest.size() + 1) / 2 - 1);
        } else {
            long sum = latest.stream().mapToLong(v -> v).sum();
            q.gave = halfEven(big(sum), big(latest.size())).intValueExact();
        }
        return q.gave;
    }

    public int probed(int p) {
        if (!in(p, 0, 3) || probes[p].curve == null || probes[p].fed.isEmpty()) {
            return -2000000;
        }
        return probes[p].curve.at(probes[p].gave);
    }

    public int table(int t, int c, int step) {
        if (!in(t, 0, 3) || !curve(c) || !Arrays.asList(16, 64, 256).contains(step)) {
            return -2;
        }
        tables[t] = new Table();
        tables[t].curve = curves.get(c);
        tables[t].step = step;
        return 4096 / step + 1;
    }

    private static float entry(Table t, int k) {
        int x = k * t.step == 4096 ? 4095 : k * t.step;
        return (float) t.curve.all()[x] * 0.001f;
    }

    public double entry(int t, int k) {
        if (!in(t, 0, 3) || tables[t] == null || !in(k, 0, 4096 / tables[t].step)) {
            return -2000000;
        }
        return entry(tables[t], k);
    }

    private static float lookup(Table t, int x) {
        int k = x / t.step;
        float e = entry(t, k);
        float rise = entry(t, k + 1) - e;
        float part = (float) (x - k * t.step) / (float) t.step;
        float more = rise * part;
        return e + more;
    }

    public double lookup(int t, int x) {
        if (!in(t, 0, 3) || tables[t] == null || !in(x, 0, 4095)) {
            return -2000000;
        }
        return lookup(tables[t], x);
    }

    private static double off(Table t, int x) {
        return Math.abs((double) lookup(t, x) - (double) t.curve.all()[x] * 0.001);
    }

    public double off(int t) {
        if (!in(t, 0, 3) || tables[t] == null) {
            return -2000000;
        }
        double most = 0.0;
        for (int x = 0; x < 4096; x++) {
            most = Math.max(most, off(tables[t], x));
        }
        return most;
    }

    public int offAt(int t) {
        if (!in(t, 0, 3) || tables[t] == null) {
            return -2;
        }
        double most = off(t);
        for (int x = 0; x < 4096; x++) {
            if (off(tables[t], x) == most) {
                return x;
            }
        }
        throw new AssertionError();
    }

    public long bank(int b, int n) {
        if (!in(b, 0, 7) || n > 64) {
            return -2;
        }
        if (n < 0) {
            return -1000000000002L;
        }
        Class<?>[] kinds = {byte.class, char.class, short.class, int.class, long.class, float.class, double.class,
            boolean.class};
        rows[b] = java.lang.reflect.Array.newInstance(kinds[b], n);
        return n;
    }

    public int free(int b) {
        if (!in(b, 0, 7)) {
            return -2;
        }
        int had = rows[b] == null ? 0 : 1;
        rows[b] = null;
        return had;
    }

    public long hold(int b, int i, long v) {
        if (!in(b, 0, 7)) {
            return -2;
        }
        if (rows[b] == null) {
            return -1000000000000L;
        }
        try {
            switch (b) {
                case 0: ((byte[]) rows[b])[i] = (byte) v; break;
                case 1: ((char[]) rows[b])[i] = (char) v; break;
                case 2: ((short[]) rows[b])[i] = (short) v; break;
                case 3: ((int[]) rows[b])[i] = (int) v; break;
                case 4: ((long[]) rows[b])[i] = v; break;
                case 5: ((float[]) rows[b])[i] = (float) v * 0.125f; break;
                case 6: ((double[]) rows[b])[i] = (double) v * 0.125; break;
                default: ((boolean[]) rows[b])[i] = v % 2 != 0; break;
            }
        } catch (ArrayIndexOutOfBoundsException e) {
            return -1000000000001L;
        }
        return held(b, i);
    }

    public long held(int b, int i) {
        if (!in(b, 0, 7)) {
            return -2;
        }
        if (rows[b] == null) {
            return -1000000000000L;
        }
        try {
            switch (b) {
                case 0: return ((byte[]) rows[b])[i];
                case 1: return ((char[]) rows[b])[i];
                case 2: return ((short[]) rows[b])[i];
                case 3: return ((int[]) rows[b])[i];
                case 4: return ((long[]) rows[b])[i];
                case 5: return (long) (((float[]) rows[b])[i] * 8);
                case 6: return (long) (((double[]) rows[b])[i] * 8);
                default: return ((boolean[]) rows[b])[i] ? 1 : 0;
            }
        } catch (ArrayIndexOutOfBoundsException e) {
            return -1000000000001L;
        }
    }

    public int readings(int s) {
        return sensor(s) ? sensors.get(s).size() : -2;
    }

    public int count(int what) {
        switch (what) {
            case 0: return curves.size();
            case 1: return knots.size();
            case 2: return (int) sensors.stream().filter(r -> !r.isEmpty()).count();
            case 3: return (int) Arrays.stream(tables).filter(t -> t != null).count();
            case 4: return (int) Arrays.stream(rows).filter(r -> r != null).count();
            default: return -2;
        }
    }
}

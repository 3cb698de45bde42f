/** Sensor curves, made from readings, knots and other curves; ../shared/DOC.md has the promises. */
public final class CurveFoundry {
    private static final int REFUSED = -2;
    private static final int NO_VALUE = -2000000;
    private static final int NONE = -1;
    private static final int ONE_COUNT_ONLY = -3;

    private static final int LAST_COUNT = 4095;
    private static final int COUNTS = 4096;
    private static final int GREATEST_VALUE = 1000000;
    private static final int GREATEST_REFERENCE = 10000;
    private static final int GREATEST_WEIGHT = 20;
    private static final int GREATEST_WORK = 500;
    private static final int GREATEST_GAIN = 1000;
    private static final int GREATEST_WINDOW = 9;

    private static final int SENSORS = 8;
    private static final int MOST_READINGS = 24;
    private static final int MOST_KNOTS = 32;
    private static final int MOST_CURVES = 60;
    private static final int PROBES = 4;
    private static final int TABLES = 4;
    private static final int MOST_ENTRIES = 257;
    private static final int BANKS = 8;
    private static final int MOST_PLACES = 64;

    private static final int LINE = 0;
    private static final int PIECES = 1;
    private static final int CLAMP = 2;
    private static final int DEAD = 3;
    private static final int CHAIN = 4;
    private static final int GAIN = 5;
    private static final int MIRROR = 6;

    private static final int RISES = 1;
    private static final int FALLS = -1;
    private static final int FLAT = 2;
    private static final int NEITHER = 0;

    private static final int LATEST = 0;
    private static final int MIDDLE = 1;
    private static final int MEAN = 2;

    private static final long NO_ROW = -1000000000000L;
    private static final long NO_PLACE = -1000000000001L;
    private static final long NO_SIZE = -1000000000002L;

    private final Sensor[] sensors = new Sensor[SENSORS];
    private final Curve[] curves = new Curve[MOST_CURVES];
    private final Probe[] probes = new Probe[PROBES];
    private final Table[] tables = new Table[TABLES];
    private final Banks banks = new Banks();
    private Knots told = new Knots();
    private int curveCount = 0;

    public CurveFoundry() {
        for (int s = 0; s < SENSORS; s++) {
            sensors[s] = new Sensor();
        }
        for (int p = 0; p < PROBES; p++) {
            probes[p] = new Probe();
        }
    }

    // Readings

    public int reading(int s, int count, int reference, int weight) {
        Sensor sensor = sensorNumbered(s);
        if (sensor == null || !isCount(count) || !isWithin(reference, GREATEST_REFERENCE)) {
            return REFUSED;
        }
        if (weight < 1 || weight > GREATEST_WEIGHT || sensor.size >= MOST_READINGS) {
            return REFUSED;
        }
        sensor.add(count, reference, weight);
        return sensor.size;
    }

    public int drop(int s, int i) {
        Sensor sensor = sensorNumbered(s);
        if (sensor == null || !sensor.has(i)) {
            return REFUSED;
        }
        sensor.remove(i);
        return sensor.size;
    }

    public int readings(int s) {
        Sensor sensor = sensorNumbered(s);
        return sensor == null ? REFUSED : sensor.size;
    }

    // Making curves

    public int line(int s) {
        Sensor sensor = sensorNumbered(s);
        if (sensor == null || !hasRoomFor(1)) {
            return REFUSED;
        }
        if (!sensor.hasTwoCounts()) {
            return ONE_COUNT_ONLY;
        }
        return keep(sensor.fitted());
    }

    public int knot(int count, int value) {
        if (!isCount(count) || count <= told.lastCount() || !isWithin(value, GREATEST_REFERENCE)) {
            return REFUSED;
        }
        if (told.size >= MOST_KNOTS) {
            return REFUSED;
        }
        told.add(count, value);
        return told.size;
    }

    public int hush() {
        int were = told.size;
        told.size = 0;
        return were;
    }

    public int pieces() {
        if (told.size == 0 || !hasRoomFor(1)) {
            return REFUSED;
        }
        Knots through = told;
        told = new Knots();
        return keep(new Pieces(through));
    }

    public int gather(int s) {
        Sensor sensor = sensorNumbered(s);
        if (sensor == null) {
            return REFUSED;
        }
        told.size = 0;
        sensor.tellMeans(told);
        return told.size;
    }

    public int clamp(int c, int low, int high) {
        Curve of = curveNumbered(c);
        if (of == null || low > high || !isValue(low) || !isValue(high) || !hasRoomFor(1 + of.work)) {
            return REFUSED;
        }
        return keep(new Remade(CLAMP, of, null, low, high, 0));
    }

    public int dead(int c, int first, int last, int rest) {
        Curve of = curveNumbered(c);
        if (of == null || first > last || !isValue(first) || !isValue(last) || !isValue(rest)) {
            return REFUSED;
        }
        if (!hasRoomFor(1 + of.work)) {
            return REFUSED;
        }
        return keep(new Remade(DEAD, of, null, first, last, rest));
    }

    public int chain(int outer, int inner) {
        Curve behind = curveNumbered(outer);
        Curve ahead = curveNumbered(inner);
        if (behind == null || ahead == null || !hasRoomFor(1 + behind.work + ahead.work)) {
            return REFUSED;
        }
        return keep(new Remade(CHAIN, ahead, behind, 0, 0, 0));
    }

    public int gain(int c, int up, int down, int more) {
        Curve of = curveNumbered(c);
        if (of == null || !isWithin(up, GREATEST_GAIN) || down < 1 || down > GREATEST_GAIN) {
            return REFUSED;
        }
        if (!isValue(more) || !hasRoomFor(1 + of.work)) {
            return REFUSED;
        }
        return keep(new Remade(GAIN, of, null, up, down, more));
    }

    public int mirror(int c) {
        Curve of = curveNumbered(c);
        if (of == null || !hasRoomFor(1 + of.work)) {
            return REFUSED;
        }
        return keep(new Remade(MIRROR, of, null, 0, 0, 0));
    }

    // Asking curves

    public int value(int c, int x) {
        Curve curve = curveNumbered(c);
        return curve == null || !isCount(x) ? NO_VALUE : curve.at(x);
    }

    public int about(int c, int what) {
        Curve curve = curveNumbered(c);
        if (curve == null) {
            return NO_VALUE;
        }
        switch (what) {
            case 0: return curve.sort;
            case 1: return curve.work;
            case 2: return curve.formed().trend;
            case 3: return curve.formed().turnCount;
            case 4: return curve.formed().least;
            case 5: return curve.formed().greatest;
            default: return NO_VALUE;
        }
    }

    public int turn(int c, int k) {
        Curve curve = curveNumbered(c);
        return curve == null ? REFUSED : curve.formed().turnNumbered(k);
    }

    public int inverse(int c, int v) {
        Curve curve = curveNumbered(c);
        return curve == null ? REFUSED : curve.formed().nearestTo(v);
    }

    // Curves against readings

    public int residual(int s, int i, int c) {
        Sensor sensor = sensorNumbered(s);
        Curve curve = curveNumbered(c);
        if (sensor == null || !sensor.has(i) || curve == null) {
            return NO_VALUE;
        }
        return sensor.missedBy(curve, i);
    }

    public int worst(int s, int c) {
        Sensor sensor = sensorNumbered(s);
        Curve curve = curveNumbered(c);
        return sensor == null || curve == null ? REFUSED : sensor.farthestFrom(curve);
    }

    public long squares(int s, int c) {
        Sensor sensor = sensorNumbered(s);
        Curve curve = curveNumbered(c);
        return sensor == null || curve == null ? REFUSED : sensor.squaresFrom(curve);
    }

    public int drift(int s, int c) {
        Sensor sensor = sensorNumbered(s);
        Curve curve = curveNumbered(c);
        if (sensor == null || curve == null || sensor.size == 0) {
            return NO_VALUE;
        }
        return sensor.meanFrom(curve);
    }

    // Probes

    public int probe(int p, int c, int filter, int n) {
        Probe probe = probeNumbered(p);
        Curve curve = curveNumbered(c);
        if (probe == null || curve == null || filter < LATEST || filter > MEAN) {
            return REFUSED;
        }
        if (n < 1 || n > GREATEST_WINDOW) {
            return REFUSED;
        }
        probe.begin(curve, filter, n);
        return 1;
    }

    public int feed(int p, int x) {
        Probe probe = probeNumbered(p);
        return probe == null || !isCount(x) ? REFUSED : probe.take(x);
    }

    public int probed(int p) {
        Probe probe = probeNumbered(p);
        return probe == null ? NO_VALUE : probe.told();
    }

    // Tables

    public int table(int t, int c, int step) {
        Curve curve = curveNumbered(c);
        if (t < 0 || t >= TABLES || curve == null || step != 16 && step != 64 && step != 256) {
            return REFUSED;
        }
        if (tables[t] == null) {
            tables[t] = new Table();
        }
        return tables[t].become(curve, step);
    }

    public double entry(int t, int k) {
        Table table = tableNumbered(t);
        return table == null || !table.has(k) ? NO_VALUE : (double) table.entries[k];
    }

    public double lookup(int t, int x) {
        Table table = tableNumbered(t);
        return table == null || !isCount(x) ? NO_VALUE : (double) table.read(x);
    }

    public double off(int t) {
        Table table = tableNumbered(t);
        if (table == null) {
            return NO_VALUE;
        }
        table.measure();
        return table.farthest;
    }

    public int offAt(int t) {
        Table table = tableNumbered(t);
        if (table == null) {
            return REFUSED;
        }
        table.measure();
        return table.farthestAt;
    }

    // Banks

    public long bank(int b, int n) {
        if (!isBank(b) || n > MOST_PLACES) {
            return REFUSED;
        }
        if (n < 0) {
            return NO_SIZE;
        }
        banks.open(b, n);
        return n;
    }

    public int free(int b) {
        if (!isBank(b)) {
            return REFUSED;
        }
        return banks.close(b) ? 1 : 0;
    }

    public long hold(int b, int i, long v) {
        long fault = faultOf(b, i);
        if (fault != 0) {
            return fault;
        }
        banks.put(b, i, v);
        return banks.get(b, i);
    }

    public long held(int b, int i) {
        long fault = faultOf(b, i);
        return fault != 0 ? fault : banks.get(b, i);
    }

    public int count(int what) {
        switch (what) {
            case 0: return curveCount;
            case 1: return told.size;
            case 2: return sensorsWithReadings();
            case 3: return tablesMade();
            case 4: return banks.opened();
            default: return REFUSED;
        }
    }

    // What the calls share

    private Sensor sensorNumbered(int s) {
        return s < 0 || s >= SENSORS ? null : sensors[s];
    }

    private Curve curveNumbered(int c) {
        return c < 0 || c >= curveCount ? null : curves[c];
    }

    private Probe probeNumbered(int p) {
        return p < 0 || p >= PROBES ? null : probes[p];
    }

    private Table tableNumbered(int t) {
        return t < 0 || t >= TABLES ? null : tables[t];
    }

    private static boolean isBank(int b) {
        return b >= 0 && b < BANKS;
    }

    /** What stands against the use of a place; 0 if nothing does. */
    private long faultOf(int b, int i) {
        if (!isBank(b)) {
            return REFUSED;
        }
        if (!banks.isOpen(b)) {
            return NO_ROW;
        }
        return banks.has(b, i) ? 0 : NO_PLACE;
    }

    private boolean hasRoomFor(int work) {
        return work <= GREATEST_WORK && curveCount < MOST_CURVES;
    }

    private int keep(Curve made) {
        if (curveCount >= MOST_CURVES) {
            return REFUSED;
        }
        curves[curveCount] = made;
        curveCount++;
        return curveCount - 1;
    }

    private int sensorsWithReadings() {
        int many = 0;
        for (int s = 0; s < SENSORS; s++) {
            if (sensors[s].size > 0) {
                many++;
            }
        }
        return many;
    }

    private int tablesMade() {
        int many = 0;
        for (int t = 0; t < TABLES; t++) {
            if (tables[t] != null) {
                many++;
            }
        }
        return many;
    }

    private static boolean isCount(int x) {
        return x >= 0 && x <= LAST_COUNT;
    }

    private static boolean isValue(int v) {
        return isWithin(v, GREATEST_VALUE);
    }

    private static boolean isWithin(int v, int bound) {
        return v >= -bound && v <= bound;
    }

    private static int nearestCount(int v) {
        return Math.max(0, Math.min(LAST_COUNT, v));
    }

    private static int nearestValue(long v) {
        return (int) Math.max(-GREATEST_VALUE, Math.min(GREATEST_VALUE, v));
    }

    /** The fraction ROUNDED; every caller's divisor is above 0. */
    private static long rounded(long dividend, long divisor) {
        if (divisor <= 0) {
            return 0;
        }
        long below = Math.floorDiv(dividend, divisor);
        long twiceRest = 2 * (dividend - below * divisor);
        boolean up = twiceRest > divisor || twiceRest == divisor && (below & 1) != 0;
        return up ? below + 1 : below;
    }

    /** A SENSOR's READINGS, in the order of their numbers. */
    private static final class Sensor {
        private final int[] counts = new int[MOST_READINGS];
        private final int[] references = new int[MOST_READINGS];
        private final int[] weights = new int[MOST_READINGS];
        private int size = 0;

        boolean has(int i) {
            return i >= 0 && i < size;
        }

        void add(int x, int reference, int weight) {
            counts[size] = x;
            references[size] = reference;
            weights[size] = weight;
            size++;
        }

        void remove(int i) {
            for (int k = i; k < size - 1; k++) {
                counts[k] = counts[k + 1];
                references[k] = references[k + 1];
                weights[k] = weights[k + 1];
            }
            size--;
        }

        boolean hasTwoCounts() {
            for (int i = 1; i < size; i++) {
                if (counts[i] != counts[0]) {
                    return true;
                }
            }
            return false;
        }

        /**
         * At 24 READINGS A and B times x, over one divisor, stay below 2 to the 58th, so longs hold them exactly;
         * two different COUNTS keep that divisor above 0.
         */
        Curve fitted() {
            long w = 0;
            long wx = 0;
            long wxx = 0;
            long wr = 0;
            long wxr = 0;
            for (int i = 0; i < size; i++) {
                long weight = weights[i];
                long x = counts[i];
                w += weight;
                wx += weight * x;
                wxx += weight * x * x;
                wr += weight * references[i];
                wxr += weight * x * references[i];
            }
            return new Line(wxx * wr - wx * wxr, w * wxr - wx * wr, w * wxx - wx * wx);
        }

        void tellMeans(Knots knots) {
            int latest = -1;
            for (int i = 0; i < size; i++) {
                int next = leastCountAbove(latest);
                if (next > LAST_COUNT) {
                    return;
                }
                knots.add(next, meanReference(next));
                latest = next;
            }
        }

        private int leastCountAbove(int bound) {
            int least = COUNTS;
            for (int i = 0; i < size; i++) {
                if (counts[i] > bound && counts[i] < least) {
                    least = counts[i];
                }
            }
            return least;
        }

        private int meanReference(int x) {
            long sum = 0;
            long weight = 0;
            for (int i = 0; i < size; i++) {
                if (counts[i] == x) {
                    sum += (long) weights[i] * references[i];
                    weight += weights[i];
                }
            }
            return (int) rounded(sum, weight);
        }

        int missedBy(Curve curve, int i) {
            return references[i] - curve.at(counts[i]);
        }

        int farthestFrom(Curve curve) {
            int at = NONE;
            int most = -1;
            for (int i = 0; i < size; i++) {
                int miss = Math.abs(missedBy(curve, i));
                if (miss > most) {
                    most = miss;
                    at = i;
                }
            }
            return at;
        }

        long squaresFrom(Curve curve) {
            long sum = 0;
            for (int i = 0; i < size; i++) {
                long miss = missedBy(curve, i);
                sum += weights[i] * miss * miss;
            }
            return sum;
        }

        int meanFrom(Curve curve) {
            long sum = 0;
            long weight = 0;
            for (int i = 0; i < size; i++) {
                sum += (long) weights[i] * missedBy(curve, i);
                weight += weights[i];
            }
            return (int) rounded(sum, weight);
        }
    }

    /** KNOTS by rising COUNTS, with the straight lines between them. */
    private static final class Knots {
        private final int[] counts = new int[MOST_KNOTS];
        private final int[] values = new int[MOST_KNOTS];
        private int size = 0;

        int lastCount() {
            return size == 0 ? -1 : counts[size - 1];
        }

        void add(int x, int v) {
            counts[size] = x;
            values[size] = v;
            size++;
        }

        int between(int x) {
            int k = howManyUpTo(x);
            if (k == 0) {
                return values[0];
            }
            if (k == size) {
                return values[k - 1];
            }
            long width = counts[k] - counts[k - 1];
            long climb = values[k] - values[k - 1];
            return (int) rounded(values[k - 1] * width + climb * (x - counts[k - 1]), width);
        }

        private int howManyUpTo(int x) {
            int many = 0;
            for (int span = MOST_KNOTS; span > 0; span /= 2) {
                if (many + span <= size && counts[many + span - 1] <= x) {
                    many += span;
                }
            }
            return many;
        }
    }

    /** A curve never changes, so what was once worked out of it is kept. */
    private abstract static class Curve {
        private final int sort;
        private final int work;
        private int[] row = null;
        private Form form = null;

        Curve(int sort, int work) {
            this.sort = sort;
            this.work = work;
        }

        /** The VALUE at a COUNT, from the curves that this one is of; at most 60 are inside one another. */
        abstract int workedOut(int x);

        /** Makes the rows of the curves that this one is of. */
        abstract void makeParts();

        final int at(int x) {
            return row == null ? workedOut(x) : row[x];
        }

        /** With the rows of its parts made first, each VALUE costs one step, not the WORK of all below. */
        final int[] filled() {
            if (row == null) {
                makeParts();
                int[] all = new int[COUNTS];
                for (int x = 0; x < COUNTS; x++) {
                    all[x] = workedOut(x);
                }
                row = all;
            }
            return row;
        }

        final Form formed() {
            if (form == null) {
                form = new Form(filled());
            }
            return form;
        }
    }

    /** LINE: A and B are fractions over one divisor. */
    private static final class Line extends Curve {
        private final long atZero;
        private final long perCount;
        private final long divisor;

        Line(long atZero, long perCount, long divisor) {
            super(LINE, 1);
            this.atZero = atZero;
            this.perCount = perCount;
            this.divisor = divisor;
        }

        int workedOut(int x) {
            return nearestValue(rounded(atZero + perCount * x, divisor));
        }

        void makeParts() {
        }
    }

    /** PIECES. */
    private static final class Pieces extends Curve {
        private final Knots knots;

        Pieces(Knots knots) {
            super(PIECES, 1);
            this.knots = knots;
        }

        int workedOut(int x) {
            return knots.between(x);
        }

        void makeParts() {
        }
    }

    /** A curve made of curves: CLAMP, DEAD, CHAIN, GAIN or MIRROR. */
    private static final class Remade extends Curve {
        private final int how;
        private final Curve of;
        private final Curve outer;
        private final int first;
        private final int second;
        private final int third;

        /** The curve outer is there for a CHAIN alone; the numbers stand as the document tells them. */
        Remade(int how, Curve of, Curve outer, int first, int second, int third) {
            super(how, 1 + of.work + (outer == null ? 0 : outer.work));
            this.how = how;
            this.of = of;
            this.outer = outer;
            this.first = first;
            this.second = second;
            this.third = third;
        }

        int workedOut(int x) {
            int v = of.at(how == MIRROR ? LAST_COUNT - x : x);
            switch (how) {
                case CLAMP: return Math.max(first, Math.min(second, v));
                case DEAD: return v >= first && v <= second ? third : v;
                case CHAIN: return outer == null ? v : outer.at(nearestCount(v));
                case GAIN: return nearestValue(rounded((long) v * first, second) + third);
                default: return v;
            }
        }

        void makeParts() {
            of.filled();
            if (outer != null) {
                outer.filled();
            }
        }
    }

    /** What only all VALUES of a curve together tell. */
    private static final class Form {
        private final int[] row;
        private final int trend;
        private final int turnCount;
        private final int least;
        private final int greatest;
        private int[] turns = null;

        Form(int[] row) {
            int low = row[0];
            int high = row[0];
            boolean ups = false;
            boolean downs = false;
            for (int x = 1; x < COUNTS; x++) {
                ups = ups || row[x] > row[x - 1];
                downs = downs || row[x] < row[x - 1];
                low = Math.min(low, row[x]);
                high = Math.max(high, row[x]);
            }
            this.row = row;
            this.least = low;
            this.greatest = high;
            this.trend = ups ? (downs ? NEITHER : RISES) : (downs ? FALLS : FLAT);
            this.turnCount = ups && downs ? findTurns(row, new int[0]) : 0;
        }

        /** How many TURNS there are; found gets as many of them as it has places. */
        private static int findTurns(int[] row, int[] found) {
            int many = 0;
            int latest = 0;
            for (int x = 1; x < COUNTS; x++) {
                if (row[x] == row[x - 1]) {
                    continue;
                }
                int way = row[x] > row[x - 1] ? 1 : -1;
                if (way == -latest) {
                    if (many < found.length) {
                        found[many] = x;
                    }
                    many++;
                }
                latest = way;
            }
            return many;
        }

        int turnNumbered(int k) {
            if (k < 0 || k >= turnCount) {
                return NONE;
            }
            if (turns == null) {
                turns = new int[turnCount];
                findTurns(row, turns);
            }
            return turns[k];
        }

        /** Of two VALUES equally near, the one met first has the lesser COUNT. */
        int nearestTo(int v) {
            if (trend == NEITHER) {
                return NONE;
            }
            long sign = trend == FALLS ? -1 : 1;
            long wanted = sign * v;
            int behind = firstNotBelow(wanted, sign);
            if (behind == 0) {
                return 0;
            }
            long ahead = sign * row[behind - 1];
            if (behind < COUNTS && sign * row[behind] - wanted < wanted - ahead) {
                return behind;
            }
            return firstNotBelow(ahead, sign);
        }

        /** The least COUNT at which the VALUE times sign, which then rises, is not below the bound, or COUNTS. */
        private int firstNotBelow(long bound, long sign) {
            int below = 0;
            for (int span = COUNTS; span > 0; span /= 2) {
                if (below + span <= COUNTS && sign * row[below + span - 1] < bound) {
                    below += span;
                }
            }
            return below;
        }
    }

    /** A PROBE keeps no more of what was fed than its FILTER looks at, the oldest first. */
    private static final class Probe {
        private final int[] fed = new int[GREATEST_WINDOW];
        private final int[] bySize = new int[GREATEST_WINDOW];
        private Curve curve = null;
        private int filter = LATEST;
        private int window = 1;
        private int size = 0;
        private int given = 0;

        void begin(Curve of, int by, int n) {
            curve = of;
            filter = by;
            window = n;
            size = 0;
        }

        int take(int x) {
            if (size >= window) {
                for (int i = 1; i < size; i++) {
                    fed[i - 1] = fed[i];
                }
                size--;
            }
            fed[size] = x;
            size++;
            given = filtered(x);
            return given;
        }

        private int filtered(int latest) {
            switch (filter) {
                case MIDDLE: return middle();
                case MEAN: return mean();
                default: return latest;
            }
        }

        private int middle() {
            for (int i = 0; i < size; i++) {
                int place = i;
                for (int k = i; k > 0 && bySize[k - 1] > fed[i]; k--) {
                    bySize[k] = bySize[k - 1];
                    place = k - 1;
                }
                bySize[place] = fed[i];
            }
            return bySize[(size - 1) / 2];
        }

        private int mean() {
            long sum = 0;
            for (int i = 0; i < size; i++) {
                sum += fed[i];
            }
            return (int) rounded(sum, size);
        }

        int told() {
            return curve == null || size == 0 ? NO_VALUE : curve.at(given);
        }
    }

    /** A TABLE; how far it is OFF is measured when it is first asked. */
    private static final class Table {
        private final float[] entries = new float[MOST_ENTRIES];
        private Curve curve = null;
        private int step = 256;
        private int size = 0;
        private double farthest = 0.0;
        private int farthestAt = NONE;

        int become(Curve of, int by) {
            curve = of;
            step = by;
            size = COUNTS / by + 1;
            farthestAt = NONE;
            for (int k = 0; k < size; k++) {
                entries[k] = (float) of.at(nearestCount(k * by)) * 0.001f;
            }
            return size;
        }

        boolean has(int k) {
            return k >= 0 && k < size;
        }

        float read(int x) {
            int k = x / step;
            float part = (float) (x - k * step) / (float) step;
            return entries[k] + (entries[k + 1] - entries[k]) * part;
        }

        void measure() {
            if (farthestAt != NONE || curve == null) {
                return;
            }
            int[] row = curve.filled();
            farthest = -1.0;
            for (int x = 0; x < COUNTS; x++) {
                double miss = (double) read(x) - (double) row[x] * 0.001;
                double by = miss < 0.0 ? -miss : miss;
                if (by > farthest) {
                    farthest = by;
                    farthestAt = x;
                }
            }
        }
    }

    /** The rows are made once at their full length; a size below 0 tells that a BANK has none now. */
    private static final class Banks {
        private final int[] sizes = new int[BANKS];
        private final byte[] bytes = new byte[MOST_PLACES];
        private final char[] chars = new char[MOST_PLACES];
        private final short[] shorts = new short[MOST_PLACES];
        private final int[] ints = new int[MOST_PLACES];
        private final long[] longs = new long[MOST_PLACES];
        private final float[] floats = new float[MOST_PLACES];
        private final double[] doubles = new double[MOST_PLACES];
        private final boolean[] booleans = new boolean[MOST_PLACES];

        Banks() {
            for (int b = 0; b < BANKS; b++) {
                sizes[b] = -1;
            }
        }

        boolean isOpen(int b) {
            return sizes[b] >= 0;
        }

        boolean has(int b, int i) {
            return i >= 0 && i < sizes[b];
        }

        void open(int b, int n) {
            sizes[b] = n;
            for (int i = 0; i < n; i++) {
                put(b, i, 0L);
            }
        }

        boolean close(int b) {
            boolean was = isOpen(b);
            sizes[b] = -1;
            return was;
        }

        int opened() {
            int many = 0;
            for (int b = 0; b < BANKS; b++) {
                if (isOpen(b)) {
                    many++;
                }
            }
            return many;
        }

        void put(int b, int i, long v) {
            switch (b) {
                case 0: bytes[i] = (byte) v; break;
                case 1: chars[i] = (char) v; break;
                case 2: shorts[i] = (short) v; break;
                case 3: ints[i] = (int) v; break;
                case 4: longs[i] = v; break;
                case 5: floats[i] = (float) v * 0.125f; break;
                case 6: doubles[i] = (double) v * 0.125; break;
                default: booleans[i] = (v & 1L) != 0L; break;
            }
        }

        long get(int b, int i) {
            switch (b) {
                case 0: return bytes[i];
                case 1: return chars[i];
                case 2: return shorts[i];
                case 3: return ints[i];
                case 4: return longs[i];
                case 5: return (long) (floats[i] * 8.0f);
                case 6: return (long) (doubles[i] * 8.0);
                default: return booleans[i] ? 1L : 0L;
            }
        }
    }
}

/** Promises 22 to 33, sentence by sentence: PROBES, TABLES and BANKS at their limits. */
public final class DeviceEdgesTest {
    private static final int NO_VALUE = -2000000;
    private static final double NO_ROW = -1000000000000.0;
    private static final double NO_PLACE = -1000000000001.0;
    private static final double NO_SIZE = -1000000000002.0;
    private static final int MIN = Integer.MIN_VALUE;
    private static final int MAX = Integer.MAX_VALUE;
    private static final int BYTES = 0;
    private static final int CHARS = 1;
    private static final int SHORTS = 2;
    private static final int INTS = 3;
    private static final int LONGS = 4;
    private static final int FLOATS = 5;
    private static final int DOUBLES = 6;
    private static final int BOOLEANS = 7;

    private DeviceEdgesTest() {
    }

    private static void due(String call, double got, double want) {
        Document.due(call, got, want);
    }

    private static void refuses(String call, double want, Workshop.Call asked) {
        Workshop.refuses(Workshop::standard, call, want, asked);
    }

    private static int[] noCurves() {
        return Workshop.beyond(0, Workshop.CURVES - 1);
    }

    private static void p22() throws Exception {
        Document.open("Promise 22");
        Document.says("PROBE p gets curve c and a FILTER of n, and what was fed to it is forgotten: 1.");
        CurveFoundry f = Workshop.standard();
        due("the same again", f.probe(0, Workshop.RAMP, 1, 4), 1);
        due("nothing was fed", f.probed(0), NO_VALUE);
        due("the first", f.feed(0, 9), 9);
        due("a narrower one", f.probe(1, Workshop.RAMP, 2, 1), 1);
        due("the first", f.feed(1, 6), 6);
        due("the second", f.feed(1, 9), 9);
        due("a wider one", f.probe(1, Workshop.RAMP, 2, 9), 1);
        due("the first", f.feed(1, 8), 8);
        due("the second", f.feed(1, 10), 9);
        due("one that had no curve", f.probe(2, Workshop.CLAMP, 2, 2), 1);
        due("what was fed ahead is forgotten", f.probed(2), NO_VALUE);
        due("what was fed ahead is forgotten", f.feed(2, 101), 101);
        due("its curve", f.probed(2), 101);
        due("another PROBE keeps its own", f.probed(0), 9);
        Document.says("-2 when there is no such PROBE or curve");
        for (int p : Workshop.beyond(0, 3)) {
            refuses("PROBE " + p, -2, g -> g.probe(p, 0, 0, 1));
        }
        for (int c : noCurves()) {
            refuses("curve " + c, -2, g -> g.probe(0, c, 0, 1));
        }
        Workshop.refuses(CurveFoundry::new, "no curves at all", -2, g -> g.probe(0, 0, 0, 1));
        Document.says("the FILTER is not 0 to 2");
        for (int filter : Workshop.beyond(0, 2)) {
            refuses("FILTER " + filter, -2, g -> g.probe(0, 0, filter, 1));
        }
        Document.says("or n not 1 to 9.");
        for (int filter = 0; filter < 3; filter++) {
            int by = filter;
            for (int n : Workshop.beyond(1, 9)) {
                refuses("n " + n, -2, g -> g.probe(0, 0, by, n));
            }
            due("n 1", f.probe(3, 7, by, 1), 1);
            due("n 9", f.probe(3, 7, by, 9), 1);
        }
        Document.close();
    }

    private static void p23() throws Exception {
        Document.open("Promise 23");
        Document.says("A COUNT is fed to PROBE p: what its FILTER gives.");
        CurveFoundry f = Workshop.standard();
        due("the fourth of 4", f.feed(0, 40), 20);
        due("the first goes", f.feed(0, 50), 20);
        due("the second goes", f.feed(0, 60), 40);
        due("the third goes", f.feed(0, 0), 40);
        due("the lower of the middle two", f.feed(0, 0), 0);
        due("(4000 + 1 + 4095) / 3", f.feed(1, 4095), 2699);
        due("one without a curve", f.feed(2, 4095), 4095);
        due("FILTER 0 of 2", f.feed(3, 100), 100);
        due("FILTER 0 of 2", f.feed(3, 0), 0);
        many(f);
        Document.says("-2 when there is no such PROBE or COUNT.");
        for (int p : Workshop.beyond(0, 3)) {
            refuses("PROBE " + p, -2, g -> g.feed(p, 1));
        }
        for (int x : Workshop.beyond(0, 4095)) {
            for (int p = 0; p < 4; p++) {
                int to = p;
                refuses("COUNT " + x + " to " + p, -2, g -> g.feed(to, x));
            }
        }
        Document.close();
    }

    /** Many more than are looked at. */
    private static void many(CurveFoundry f) {
        f.probe(0, 0, 2, 9);
        f.probe(1, 0, 1, 9);
        for (int i = 0; i < 150; i++) {
            int looked = Math.min(i + 1, 9);
            due("mean of the latest 9", f.feed(0, 20 * i), 20 * i - 10 * (looked - 1));
            due("middle of the latest 9", f.feed(1, 3000 - 20 * i), 3000 - 20 * (i - (looked - 1) / 2));
        }
    }

    private static void p24() throws Exception {
        Document.open("Promise 24");
        Document.says("The VALUE of the curve of PROBE p at what its FILTER gave at the latest feed().");
        CurveFoundry f = Workshop.standard();
        due("middle", f.probed(0), 20);
        due("mean, by its CLAMP", f.probed(1), 2000);
        due("feed", f.feed(1, 0), 1334);
        due("feed", f.feed(1, 0), 1000);
        due("mean, by its CLAMP", f.probed(1), 1000);
        due("asked again", f.probed(1), 1000);
        due("feed", f.feed(3, 0), 0);
        due("at 0", f.probed(3), f.value(Workshop.LINE, 0));
        due("feed", f.feed(3, 4095), 4095);
        due("at 4095", f.probed(3), f.value(Workshop.LINE, 4095));
        due("refused", f.feed(3, 4096), -2);
        due("still at 4095", f.probed(3), f.value(Workshop.LINE, 4095));
        Document.says("-2000000 when there is no such PROBE");
        for (int p : Workshop.beyond(0, 3)) {
            refuses("PROBE " + p, NO_VALUE, g -> g.probed(p));
        }
        Document.says("it has no curve");
        refuses("fed, but of no curve", NO_VALUE, g -> g.probed(2));
        Workshop.refuses(CurveFoundry::new, "of no curve", NO_VALUE, g -> g.probed(0));
        Document.says("or nothing was fed since.");
        refuses("never fed", NO_VALUE, g -> g.probed(3));
        f.probe(0, 0, 0, 1);
        due("fed ahead only", f.probed(0), NO_VALUE);
        due("a refused feed is none", f.feed(0, -1), -2);
        due("nothing yet", f.probed(0), NO_VALUE);
        due("feed", f.feed(0, 0), 0);
        due("fed since", f.probed(0), 0);
        Document.close();
    }

    private static void p25() throws Exception {
        Document.open("Promise 25");
        Document.says("TABLE t becomes that of curve c with a STEP: how many ENTRIES it has.");
        CurveFoundry f = Workshop.standard();
        for (int t = 0; t < 4; t++) {
            due("by 16", f.table(t, 0, 16), 257);
            due("by 256", f.table(t, 0, 256), 17);
            due("by 64", f.table(t, 0, 64), 65);
            due("the last of 65", f.entry(t, 64), 4095f * 0.001f);
            due("no more of them", f.entry(t, 65), NO_VALUE);
        }
        due("of another curve", f.table(0, Workshop.GAIN, 64), 65);
        due("its first ENTRY", f.entry(0, 0), 7f * 0.001f);
        due("its last ENTRY", f.entry(0, 64), -6135f * 0.001f);
        due("another TABLE keeps its own", f.entry(1, 0), 0.0);
        Document.says("-2 when there is no such TABLE or curve");
        for (int t : Workshop.beyond(0, 3)) {
            refuses("TABLE " + t, -2, g -> g.table(t, 0, 16));
        }
        for (int c : noCurves()) {
            refuses("curve " + c, -2, g -> g.table(0, c, 16));
            refuses("curve " + c + " for one that is none yet", -2, g -> g.table(1, c, 16));
        }
        Document.says("or the STEP is none.");
        int[] none = {MIN, -256, -64, -16, -1, 0, 1, 15, 17, 32, 63, 65, 128, 255, 257, 512, 4095, 4096, 65552, MAX};
        for (int step : none) {
            refuses("STEP " + step, -2, g -> g.table(0, 0, step));
            refuses("STEP " + step + " for one that is none yet", -2, g -> g.table(1, 0, step));
        }
        Document.close();
    }

    private static void p26() throws Exception {
        Document.open("Promise 26");
        Document.says("ENTRY k of TABLE t.");
        CurveFoundry f = Workshop.standard();
        int[] steps = {16, 64, 256};
        for (int step : steps) {
            f.table(3, Workshop.GAIN, step);
            int last = 4096 / step;
            due("the first", f.entry(3, 0), 7f * 0.001f);
            due("the second", f.entry(3, 1), (float) f.value(Workshop.GAIN, step) * 0.001f);
            due("the last but one", f.entry(3, last - 1), (float) f.value(Workshop.GAIN, 4096 - step) * 0.001f);
            due("the last, of the VALUE at 4095", f.entry(3, last), -6135f * 0.001f);
        }
        Document.says("-2000000 when there is no such TABLE");
        for (int t : Workshop.beyond(0, 3)) {
            refuses("TABLE " + t, NO_VALUE, g -> g.entry(t, 0));
        }
        Document.says("it is none yet");
        refuses("TABLE 1", NO_VALUE, g -> g.entry(1, 0));
        refuses("TABLE 3", NO_VALUE, g -> g.entry(3, 0));
        Document.says("or has no such ENTRY.");
        for (int k : Workshop.beyond(0, 256)) {
            refuses("ENTRY " + k + " by 16", NO_VALUE, g -> g.entry(0, k));
        }
        for (int k : Workshop.beyond(0, 16)) {
            refuses("ENTRY " + k + " by 256", NO_VALUE, g -> g.entry(2, k));
        }
        f.table(3, 0, 16);
        f.table(3, 0, 64);
        due("ENTRY 64 by 64", f.entry(3, 64), 4095f * 0.001f);
        due("ENTRY 65 by 64", f.entry(3, 65), NO_VALUE);
        Document.close();
    }

    private static void p27() throws Exception {
        Document.open("Promise 27");
        Document.says("LOOKUP in TABLE t.");
        CurveFoundry f = Workshop.standard();
        f.table(3, Workshop.through(f, 0, 100, 16, -333, 4080, 7, 4095, 9999), 16);
        float first = 100f * 0.001f;
        float second = -333f * 0.001f;
        float ahead = 7f * 0.001f;
        float last = 9999f * 0.001f;
        due("at 0", f.lookup(3, 0), first);
        due("at 1", f.lookup(3, 1), first + (second - first) * (1f / 16f));
        due("at 15", f.lookup(3, 15), first + (second - first) * (15f / 16f));
        due("at 16", f.lookup(3, 16), second);
        due("at 4080", f.lookup(3, 4080), ahead);
        due("at 4095", f.lookup(3, 4095), ahead + (last - ahead) * (15f / 16f));
        Document.says("-2000000 when there is no such TABLE");
        for (int t : Workshop.beyond(0, 3)) {
            refuses("TABLE " + t, NO_VALUE, g -> g.lookup(t, 0));
        }
        Document.says("it is none yet");
        refuses("TABLE 1", NO_VALUE, g -> g.lookup(1, 0));
        refuses("TABLE 3", NO_VALUE, g -> g.lookup(3, 4095));
        Document.says("or there is no such COUNT.");
        for (int x : Workshop.beyond(0, 4095)) {
            refuses("COUNT " + x + " by 16", NO_VALUE, g -> g.lookup(0, x));
            refuses("COUNT " + x + " by 256", NO_VALUE, g -> g.lookup(2, x));
        }
        Document.close();
    }

    private static void p28and29() throws Exception {
        Document.open("Promise 28");
        Document.says("The greatest that TABLE t is OFF at any COUNT.");
        CurveFoundry f = Workshop.standard();
        int peaks = Workshop.through(f, 200, 0, 201, 1000, 202, 0, 230, 0, 231, -1000, 232, 0);
        due("table", f.table(1, peaks, 256), 17);
        due("at the peak", f.off(1), 1000 * 0.001);
        due("asked again", f.off(1), 1000 * 0.001);
        int level = Workshop.through(f, 0, 3);
        due("another curve", f.table(1, level, 256), 17);
        due("at all COUNTS alike", f.off(1), (double) (3f * 0.001f) - 3 * 0.001);
        int end = Workshop.through(f, 4094, 0, 4095, 1000);
        due("one that goes up at 4095 alone", f.table(1, end, 16), 257);
        due("at 4094, ahead of it", f.off(1), (double) (1000f * 0.001f * (14f / 16f)));
        due("another STEP", f.table(1, end, 256), 17);
        due("at 4094, ahead of it", f.off(1), (double) (1000f * 0.001f * (254f / 256f)));
        Document.says("-2000000 when there is no such TABLE");
        for (int t : Workshop.beyond(0, 3)) {
            refuses("TABLE " + t, NO_VALUE, g -> g.off(t));
        }
        Document.says("or it is none yet.");
        refuses("TABLE 1", NO_VALUE, g -> g.off(1));
        refuses("TABLE 3", NO_VALUE, g -> g.off(3));
        Document.close();
        Document.open("Promise 29");
        Document.says("The least COUNT at which it is OFF by that");
        due("at 4094", f.offAt(1), 4094);
        f.table(1, peaks, 256);
        due("at the first of two", f.offAt(1), 201);
        f.table(1, f.gain(peaks, -1, 1, 0), 256);
        due("at the first of two, without sign", f.offAt(1), 201);
        f.table(1, level, 64);
        due("at all COUNTS alike", f.offAt(1), 0);
        f.table(1, f.gain(level, 0, 1, 0), 64);
        due("never OFF", f.offAt(1), 0);
        f.table(1, Workshop.RAMP, 64);
        due("at 4095", f.offAt(1), 4095);
        Document.says("-2 likewise.");
        for (int t : Workshop.beyond(0, 3)) {
            refuses("TABLE " + t, -2, g -> g.offAt(t));
        }
        refuses("TABLE 1, none yet", -2, g -> g.offAt(1));
        refuses("TABLE 3, none yet", -2, g -> g.offAt(3));
        Document.close();
    }

    private static void p30() throws Exception {
        Document.open("Promise 30");
        Document.says("BANK b gets a new row of n places, of 0 (0.0, false): n.");
        int[] sizes = {0, 1, 63, 64};
        for (int b = 0; b < 8; b++) {
            CurveFoundry f = new CurveFoundry();
            for (int n : sizes) {
                due("bank(" + b + ", " + n + ")", f.bank(b, n), n);
                due("none behind the last", f.held(b, n), NO_PLACE);
                for (int i = 0; i < n; i++) {
                    due("of 0", f.held(b, i), 0);
                    f.hold(b, i, 1);
                }
            }
            due("a shorter one", f.bank(b, 2), 2);
            due("and a longer one again", f.bank(b, 64), 64);
            for (int i = 0; i < 64; i++) {
                due("of 0 again", f.held(b, i), 0);
            }
        }
        Document.says("-2 when there is no such BANK");
        for (int b : Workshop.beyond(0, 7)) {
            refuses("BANK " + b, -2, g -> g.bank(b, 1));
            refuses("BANK " + b + ", and no size", -2, g -> g.bank(b, -1));
        }
        Document.says("or n is above 64");
        int[] above = {65, 128, 256, 65536, MAX};
        int[] below = {-1, -64, -65536, MIN + 1, MIN};
        for (int bank = 0; bank < 8; bank++) {
            int b = bank;
            for (int n : above) {
                refuses(n + " places", -2, g -> g.bank(b, n));
            }
        }
        Document.says("-1000000000002 when n is below 0.");
        for (int bank = 0; bank < 8; bank++) {
            int b = bank;
            for (int n : below) {
                refuses(n + " places", NO_SIZE, g -> g.bank(b, n));
            }
        }
        Document.close();
    }

    private static void p31() throws Exception {
        Document.open("Promise 31");
        Document.says("BANK b has no row any more: 1 if it had one, else 0.");
        for (int b = 0; b < 8; b++) {
            CurveFoundry f = new CurveFoundry();
            due("had none yet", f.free(b), 0);
            due("still none", f.count(4), 0);
            f.bank(b, 64);
            f.hold(b, 63, 1);
            due("had one", f.free(b), 1);
            due("has none", f.held(b, 63), NO_ROW);
            due("has none", f.hold(b, 63, 1), NO_ROW);
            due("had none any more", f.free(b), 0);
            f.bank(b, 0);
            due("had one of 0 places", f.free(b), 1);
            f.bank(b, 64);
            due("a new one is of 0", f.held(b, 63), 0);
        }
        CurveFoundry f = Workshop.standard();
        due("BANK 3", f.free(3), 1);
        due("others keep theirs", f.held(2, 2), 101);
        Document.says("-2 when there is no such BANK.");
        for (int b : Workshop.beyond(0, 7)) {
            refuses("BANK " + b, -2, g -> g.free(b));
        }
        Document.close();
    }

    /** What hold() answers for v, and held() then. */
    private static void dueHeld(int b, long v, long want) {
        CurveFoundry f = new CurveFoundry();
        f.bank(b, 64);
        int[] places = {0, 1, 63};
        for (int i : places) {
            Document.dueLong("hold(" + b + ", " + i + ", " + v + ")", f.hold(b, i, v), want);
            Document.dueLong("held(" + b + ", " + i + ") of " + v, f.held(b, i), want);
        }
        Document.dueLong("the place beside", f.held(b, 2), 0);
        Document.dueLong("the place beside", f.held(b, 62), 0);
    }

    private static void wholeRows() {
        long[][] due = {
            {BYTES, 127, 127}, {BYTES, 128, -128}, {BYTES, 255, -1}, {BYTES, 256, 0}, {BYTES, -128, -128},
            {BYTES, -129, 127}, {BYTES, Long.MAX_VALUE, -1}, {BYTES, Long.MIN_VALUE, 0},
            {CHARS, 65535, 65535}, {CHARS, 65536, 0}, {CHARS, 32768, 32768}, {CHARS, -1, 65535}, {CHARS, -65536, 0},
            {CHARS, Long.MAX_VALUE, 65535}, {CHARS, Long.MIN_VALUE, 0},
            {SHORTS, 32767, 32767}, {SHORTS, 32768, -32768}, {SHORTS, 65535, -1}, {SHORTS, 65536, 0},
            {SHORTS, -32768, -32768}, {SHORTS, -32769, 32767}, {SHORTS, Long.MAX_VALUE, -1}, {SHORTS, Long.MIN_VALUE, 0},
            {INTS, MAX, MAX}, {INTS, 2147483648L, MIN}, {INTS, 4294967295L, -1}, {INTS, 4294967296L, 0}, {INTS, MIN, MIN},
            {INTS, -2147483649L, MAX}, {INTS, Long.MAX_VALUE, -1}, {INTS, Long.MIN_VALUE, 0},
            {LONGS, Long.MAX_VALUE, Long.MAX_VALUE}, {LONGS, Long.MIN_VALUE, Long.MIN_VALUE}, {LONGS, -1, -1},
            {LONGS, 4294967296L, 4294967296L}};
        for (long[] d : due) {
            dueHeld((int) d[0], d[1], d[2]);
        }
    }

    /** What one BANK gets, no other one holds. */
    private static void ownRows() {
        for (int b = 0; b < 8; b++) {
            CurveFoundry f = new CurveFoundry();
            for (int other = 0; other < 8; other++) {
                f.bank(other, 5);
                f.hold(other, 3, 1);
            }
            due("hold(" + b + ", 3, 0)", f.hold(b, 3, 0), 0);
            due("hold(" + b + ", 4, 1)", f.hold(b, 4, 1), 1);
            for (int other = 0; other < 8; other++) {
                due("place 3 of BANK " + other, f.held(other, 3), other == b ? 0 : 1);
                due("place 4 of BANK " + other, f.held(other, 4), other == b ? 1 : 0);
            }
            due("a new row of BANK " + b, f.bank(b, 5), 5);
            for (int other = 0; other < 8; other++) {
                due("place 3 of BANK " + other, f.held(other, 3), other == b ? 0 : 1);
            }
        }
    }

    private static void floatRows() {
        long[][] due = {
            {FLOATS, 1, 1}, {FLOATS, -1, -1}, {FLOATS, 7, 7}, {FLOATS, 16777215, 16777215}, {FLOATS, 16777216, 16777216},
            {FLOATS, 16777217, 16777216}, {FLOATS, 16777219, 16777220}, {FLOATS, -16777217, -16777216},
            {FLOATS, Long.MAX_VALUE, Long.MAX_VALUE}, {FLOATS, Long.MIN_VALUE, Long.MIN_VALUE},
            {FLOATS, 9223371761976868863L, 9223371487098961920L}, {FLOATS, 0, 0},
            {DOUBLES, 1, 1}, {DOUBLES, -1, -1}, {DOUBLES, 9007199254740991L, 9007199254740991L},
            {DOUBLES, 9007199254740992L, 9007199254740992L}, {DOUBLES, 9007199254740993L, 9007199254740992L},
            {DOUBLES, 9007199254740995L, 9007199254740996L}, {DOUBLES, -9007199254740993L, -9007199254740992L},
            {DOUBLES, 16777217, 16777217}, {DOUBLES, Long.MAX_VALUE, Long.MAX_VALUE},
            {DOUBLES, Long.MIN_VALUE, Long.MIN_VALUE}, {DOUBLES, 9223372036854775295L, 9223372036854774784L},
            {DOUBLES, 0, 0}};
        for (long[] d : due) {
            dueHeld((int) d[0], d[1], d[2]);
        }
    }

    private static void p32() throws Exception {
        Document.open("Promise 32");
        Document.says("Place i of BANK b gets v, as its row holds it: of bytes, chars, shorts, ints the lowest"
            + " 8, 16, 16, 32 bits");
        wholeRows();
        ownRows();
        Document.says("of floats, doubles v by 8 (v as a float or double, times 0.125)");
        floatRows();
        Document.says("of booleans whether v is odd");
        long[][] odd = {{0, 0}, {1, 1}, {-1, 1}, {2, 0}, {-2, 0}, {3, 1}, {-3, 1}, {Long.MAX_VALUE, 1}, {Long.MIN_VALUE, 0}};
        for (long[] d : odd) {
            dueHeld(BOOLEANS, d[0], d[1]);
        }
        CurveFoundry f = new CurveFoundry();
        f.bank(BOOLEANS, 1);
        due("true", f.hold(BOOLEANS, 0, 5), 1);
        due("and false again", f.hold(BOOLEANS, 0, 4), 0);
        Document.says("what it holds then, as held() tells.");
        f.bank(CHARS, 1);
        Document.dueLong("hold", f.hold(CHARS, 0, -2), f.held(CHARS, 0));
        Document.says("-2 when there is no such BANK");
        for (int b : Workshop.beyond(0, 7)) {
            refuses("BANK " + b, -2, g -> g.hold(b, 0, 1));
            refuses("BANK " + b + ", and no place", -2, g -> g.hold(b, -1, 1));
        }
        Document.says("-1000000000000 without a row");
        refuses("BANK 6", NO_ROW, g -> g.hold(6, 0, 1));
        for (int i : Workshop.beyond(0, 2)) {
            refuses("BANK 6, and no place", NO_ROW, g -> g.hold(6, i, 1));
        }
        Document.says("-1000000000001 when there is no such place.");
        places((g, b, i) -> g.hold(b, i, 1));
        Document.close();
    }

    private interface At {
        double of(CurveFoundry f, int b, int i);
    }

    private static void places(At asked) {
        for (int bank = 0; bank < 8; bank++) {
            int b = bank;
            if (b == 6) {
                continue;
            }
            for (int i : Workshop.beyond(0, b == 4 ? -1 : 2)) {
                refuses("place " + i + " of BANK " + b, NO_PLACE, g -> asked.of(g, b, i));
            }
        }
        for (int bank = 0; bank < 8; bank++) {
            CurveFoundry f = new CurveFoundry();
            f.bank(bank, 64);
            due("place 64 of 64", asked.of(f, bank, 64), NO_PLACE);
            due("place -1 of 64", asked.of(f, bank, -1), NO_PLACE);
            f.bank(bank, 1);
            due("place 1 of 1, once of 64", asked.of(f, bank, 1), NO_PLACE);
            due("place 63 of 1, once of 64", asked.of(f, bank, 63), NO_PLACE);
        }
    }

    private static void p33() throws Exception {
        Document.open("Promise 33");
        Document.says("What place i of BANK b holds: bytes, shorts, ints with sign, chars without");
        long[] minus = {-1, 65535, -1, -1, -1, -1, -1, 1};
        for (int b = 0; b < 8; b++) {
            dueHeld(b, -1, minus[b]);
        }
        Document.says("of floats, doubles it times 8, cut to a whole number");
        floatRows();
        Document.says("of booleans 1 or 0.");
        dueHeld(BOOLEANS, 99, 1);
        dueHeld(BOOLEANS, 98, 0);
        Document.says("-2, -1000000000000, -1000000000001 as of hold().");
        for (int b : Workshop.beyond(0, 7)) {
            refuses("BANK " + b, -2, g -> g.held(b, 0));
            refuses("BANK " + b + ", and no place", -2, g -> g.held(b, -1));
        }
        for (int i : Workshop.beyond(0, 2)) {
            refuses("BANK 6, and no place", NO_ROW, g -> g.held(6, i));
        }
        refuses("BANK 6", NO_ROW, g -> g.held(6, 0));
        places((g, b, i) -> g.held(b, i));
        Document.close();
    }

    public static void main(String[] args) throws Exception {
        p22();
        p23();
        p24();
        p25();
        p26();
        p27();
        p28and29();
        p30();
        p31();
        p32();
        p33();
        Check.finish();
    }
}

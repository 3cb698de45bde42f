/** One method for each promise of the document: ordinary inputs, the edges that it names, and wrong inputs. */
public final class PromisesTest {
    private static final int NO_VALUE = -2000000;
    private static final long NO_ROW = -1000000000000L;
    private static final long NO_PLACE = -1000000000001L;
    private static final long NO_SIZE = -1000000000002L;
    private static final int[] FAR = {Integer.MIN_VALUE, -1, Integer.MAX_VALUE};

    private PromisesTest() {
    }

    private static void due(String call, long got, long want) {
        Check.due(call, got, want);
    }

    /** A curve of PIECES through count, value, count, value, ..: its number. */
    private static int through(CurveFoundry f, int... told) {
        f.hush();
        for (int i = 0; i < told.length; i += 2) {
            due("knot of through", f.knot(told[i], told[i + 1]), i / 2 + 1);
        }
        return f.pieces();
    }

    private static CurveFoundry withCurves(int many) {
        CurveFoundry f = new CurveFoundry();
        for (int i = 0; i < many; i++) {
            through(f, 0, 0, 4095, 4095);
        }
        return f;
    }

    /** A foundry whose last curve has just this WORK: a chain with a curve of WORK 2^k - 1 adds 2^k. */
    private static CurveFoundry withWork(int work) {
        CurveFoundry f = withCurves(1);
        int top = 0;
        for (int i = 0; i < 8 && f.about(top, 1) * 2 + 1 <= work; i++) {
            top = f.chain(top, top);
        }
        for (int k = top; k >= 1; k--) {
            if (f.about(top, 1) + (1 << k) <= work) {
                top = f.chain(top, k - 1);
            }
        }
        if (f.about(top, 1) < work) {
            top = f.mirror(top);
        }
        due("work", f.about(top, 1), work);
        due("last", f.count(0) - 1, top);
        return f;
    }

    private static void p1() {
        CurveFoundry f = new CurveFoundry();
        for (int what = 0; what < 5; what++) {
            due("count of a new object", f.count(what), 0);
        }
        for (int i = 0; i < 8; i++) {
            due("readings of a new object", f.readings(i), 0);
            due("held of a new object", f.held(i, 0), NO_ROW);
        }
        for (int i = 0; i < 4; i++) {
            due("probed of a new object", f.probed(i), NO_VALUE);
            Check.dueExactly("entry of a new object", f.entry(i, 0), NO_VALUE);
            due("feed of a new PROBE", f.feed(i, 7), 7);
            due("feed of a new PROBE", f.feed(i, 100), 100);
        }
        CurveFoundry other = new CurveFoundry();
        due("knot", other.knot(5, 5), 1);
        due("objects share nothing", f.count(1), 0);
    }

    private static void p2reading() {
        CurveFoundry f = new CurveFoundry();
        due("reading", f.reading(0, 0, -10000, 1), 1);
        due("reading", f.reading(7, 4095, 10000, 20), 1);
        due("reading", f.reading(0, 0, -10000, 1), 2);
        int[][] wrong = {{-1, 0, 0, 1}, {8, 0, 0, 1}, {0, -1, 0, 1}, {0, 4096, 0, 1}, {0, 0, -10001, 1},
            {0, 0, 10001, 1}, {0, 0, 0, 0}, {0, 0, 0, 21}};
        for (int[] w : wrong) {
            due("wrong reading", f.reading(w[0], w[1], w[2], w[3]), -2);
        }
        for (int far : FAR) {
            due("far reading", f.reading(far, 0, 0, 1), -2);
            due("far reading", f.reading(0, far, 0, 1), -2);
            due("far reading", f.reading(0, 0, far == -1 ? -10001 : far, 1), -2);
            due("far reading", f.reading(0, 0, 0, far), -2);
        }
        for (int i = 3; i <= 24; i++) {
            due("reading", f.reading(0, i, i, 1), i);
        }
        due("25th reading", f.reading(0, 1, 1, 1), -2);
        due("readings", f.readings(0), 24);
        due("reading of another SENSOR", f.reading(1, 1, 1, 1), 1);
    }

    private static void p3drop() {
        CurveFoundry f = withCurves(1);
        for (int i = 0; i < 4; i++) {
            f.reading(2, 100 + i, 1000 + 10 * i, 1);
        }
        due("drop", f.drop(2, 1), 3);
        due("the one behind moved up", f.residual(2, 1, 0), 1020 - 102);
        due("and the one behind it", f.residual(2, 2, 0), 1030 - 103);
        due("the one ahead stays", f.residual(2, 0, 0), 900);
        due("drop of none", f.drop(2, 3), -2);
        due("drop of the last", f.drop(2, 2), 2);
        due("drop below", f.drop(2, -1), -2);
        due("drop of no SENSOR", f.drop(8, 0), -2);
        due("drop of no SENSOR", f.drop(-1, 0), -2);
        due("drop of an empty one", f.drop(3, 0), -2);
        due("reading goes behind", f.reading(2, 5, 5, 1), 3);
        due("residual of it", f.residual(2, 2, 0), 0);
        for (int i = 0; i < 24; i++) {
            f.reading(4, i, 2 * i, i % 20 + 1);
        }
        due("drop of the first of 24", f.drop(4, 0), 23);
        due("its WEIGHT goes with it", f.squares(4, 0), squaresOf24() - 0);
        due("drop of the one behind it", f.drop(4, 0), 22);
        due("its WEIGHT goes with it", f.squares(4, 0), squaresOf24() - 2);
        f.reading(4, 1, 0, 1);
        f.reading(4, 1, 0, 1);
        due("24 again", f.readings(4), 24);
        due("drop of the last of 24", f.drop(4, 23), 23);
    }

    private static long squaresOf24() {
        long sum = 0;
        for (int i = 0; i < 24; i++) {
            sum += (long) i * i * (i % 20 + 1);
        }
        return sum;
    }

    private static void p4line() {
        CurveFoundry f = new CurveFoundry();
        due("line of no SENSOR", f.line(8), -2);
        due("line of no SENSOR", f.line(-1), -2);
        due("line of none", f.line(0), -3);
        f.reading(0, 10, 5, 1);
        f.reading(0, 10, 9, 3);
        due("line of one COUNT", f.line(0), -3);
        f.reading(0, 12, 9, 3);
        due("line", f.line(0), 0);
        due("through the mean of 10", f.value(0, 10), 8);
        due("through 12", f.value(0, 12), 9);
        due("half to even", f.value(0, 11), 8);
        due("half to even", f.value(0, 13), 10);
        due("half to even below", f.value(0, 9), 8);
        f.reading(0, 4000, -10000, 20);
        due("the READINGS as they were then", f.value(0, 12), 9);
        f.reading(1, 0, -10000, 20);
        f.reading(1, 1, 10000, 20);
        due("steep line", f.line(1), 1);
        due("VALUE", f.value(1, 50), 990000);
        due("VALUE within the limit", f.value(1, 51), 1000000);
        due("VALUE within the limit", f.value(1, 4095), 1000000);
        f.drop(1, 1);
        f.reading(1, 1, -10000, 1);
        f.drop(1, 0);
        f.reading(1, 0, 10000, 1);
        due("steep falling line", f.line(1), 2);
        due("VALUE", f.value(2, 4095), -1000000);
        for (int i = 0; i < 24; i++) {
            f.reading(2, i < 12 ? 4095 - i : 2 * i, i % 2 == 0 ? 10000 - i : i - 9000, 20 - i % 3);
        }
        due("line of 24", f.line(2), 3);
        due("about", f.about(3, 0), 0);
        due("work", f.about(3, 1), 1);
        CurveFoundry full = withCurves(60);
        full.reading(0, 1, 1, 1);
        due("line beyond 60, ahead of -3", full.line(0), -2);
        full.reading(0, 2, 1, 1);
        due("line beyond 60", full.line(0), -2);
    }

    private static void p5knot() {
        CurveFoundry f = new CurveFoundry();
        due("knot below", f.knot(-1, 0), -2);
        due("knot above", f.knot(4096, 0), -2);
        due("knot value below", f.knot(0, -10001), -2);
        due("knot value above", f.knot(0, 10001), -2);
        due("none told yet", f.count(1), 0);
        due("knot", f.knot(0, -10000), 1);
        due("knot as high as the latest", f.knot(0, 0), -2);
        due("knot", f.knot(5, 10000), 2);
        due("knot lower than the latest", f.knot(4, 0), -2);
        for (int i = 3; i <= 32; i++) {
            due("knot", f.knot(2 * i, i), i);
        }
        due("33rd knot", f.knot(4095, 0), -2);
        due("told", f.count(1), 32);
        due("pieces of 32", f.pieces(), 0);
        for (int i = 3; i <= 32; i++) {
            due("at each KNOT", f.value(0, 2 * i), i);
            due("half ahead of each", f.value(0, 2 * i - 1), i == 3 ? 10000 : i % 2 == 0 ? i : i - 1);
        }
        for (int far : FAR) {
            due("far knot", f.knot(far, 0), -2);
            due("far knot", f.knot(0, far == -1 ? 10001 : far), -2);
        }
        due("knot 4095", f.knot(4095, 1), 1);
        due("knot behind it", f.knot(4096, 1), -2);
    }

    private static void p6hush() {
        CurveFoundry f = new CurveFoundry();
        due("hush of none", f.hush(), 0);
        f.knot(100, 1);
        f.knot(200, 1);
        due("hush", f.hush(), 2);
        due("told", f.count(1), 0);
        due("hush again", f.hush(), 0);
        due("a lower KNOT may come", f.knot(5, 1), 1);
    }

    private static void p7pieces() {
        CurveFoundry f = new CurveFoundry();
        due("pieces of none", f.pieces(), -2);
        f.knot(100, 7);
        due("pieces of one", f.pieces(), 0);
        due("ahead", f.value(0, 0), 7);
        due("behind", f.value(0, 4095), 7);
        due("told no more", f.count(1), 0);
        due("pieces again", f.pieces(), -2);
        due("pieces", through(f, 10, -3, 12, -4, 20, 4), 1);
        due("ahead of the first", f.value(1, 9), -3);
        due("half to even, below 0", f.value(1, 11), -4);
        due("at a KNOT", f.value(1, 12), -4);
        due("between", f.value(1, 15), -1);
        due("behind the last", f.value(1, 21), 4);
        due("another keeps its own", f.value(0, 15), 7);
        due("half to even", f.value(through(f, 0, 1, 2, 2), 1), 2);
        due("half to even", f.value(through(f, 0, 2, 2, 3), 1), 2);
        due("falling half to even", f.value(through(f, 0, 3, 2, 2), 1), 2);
        due("widest", f.value(through(f, 0, -10000, 4095, 10000), 4094), 9995);
        CurveFoundry full = withCurves(59);
        full.knot(1, 1);
        full.knot(9, 3);
        due("60th", full.pieces(), 59);
        full.knot(2, 2);
        due("61st", full.pieces(), -2);
        due("refused: still told", full.count(1), 1);
        due("refused: no curve more", full.count(0), 60);
    }

    private static void p8gather() {
        CurveFoundry f = new CurveFoundry();
        due("gather of no SENSOR", f.gather(8), -2);
        due("gather of no SENSOR", f.gather(-1), -2);
        f.knot(7, 7);
        due("refused gather", f.gather(99), -2);
        due("changes nothing", f.count(1), 1);
        due("gather of none", f.gather(0), 0);
        due("in place of others", f.count(1), 0);
        f.reading(0, 300, 10, 1);
        f.reading(0, 100, 5, 1);
        f.reading(0, 300, 13, 1);
        f.reading(0, 200, -7, 3);
        f.reading(0, 100, 8, 2);
        f.reading(0, 200, -8, 3);
        f.knot(4095, 1);
        due("gather", f.gather(0), 3);
        due("a KNOT not above the latest", f.knot(300, 0), -2);
        due("a KNOT behind them", f.knot(301, 50), 4);
        due("pieces", f.pieces(), 0);
        due("weighted mean", f.value(0, 100), 7);
        due("half to even", f.value(0, 200), -8);
        due("half to even", f.value(0, 300), 12);
        due("told", f.value(0, 301), 50);
        due("READINGS stay", f.readings(0), 6);
        for (int i = 0; i < 24; i++) {
            f.reading(1, 4095 - i, i, 1);
        }
        due("gather of 24", f.gather(1), 24);
        due("none behind 4095", f.knot(4095, 0), -2);
        due("pieces of 24", f.pieces(), 1);
        due("by rising COUNTS", f.value(1, 4072), 23);
        due("by rising COUNTS", f.value(1, 0), 23);
        due("by rising COUNTS", f.value(1, 4095), 0);
    }

    private static void p9clamp() {
        CurveFoundry f = withCurves(1);
        due("clamp", f.clamp(0, 10, 20), 1);
        due("below", f.value(1, 9), 10);
        due("low", f.value(1, 10), 10);
        due("between", f.value(1, 15), 15);
        due("above", f.value(1, 21), 20);
        due("sort", f.about(1, 0), 2);
        due("work", f.about(1, 1), 2);
        due("clamp to one", f.clamp(0, -5, -5), 2);
        due("one", f.value(2, 4000), -5);
        due("clamp widest", f.clamp(0, -1000000, 1000000), 3);
        due("widest", f.value(3, 4000), 4000);
        int[][] wrong = {{4, 0, 1}, {-1, 0, 1}, {0, 1, 0}, {0, -1000001, 0}, {0, 0, 1000001},
            {0, 1000001, 1000002}, {0, Integer.MIN_VALUE, Integer.MAX_VALUE}};
        for (int[] w : wrong) {
            due("wrong clamp", f.clamp(w[0], w[1], w[2]), -2);
        }
        due("none made", f.count(0), 4);
        due("61st", withCurves(60).clamp(0, 0, 1), -2);
        CurveFoundry heavy = withWork(500);
        due("WORK of 501", heavy.clamp(heavy.count(0) - 1, 0, 1), -2);
        heavy = withWork(499);
        int top = heavy.clamp(heavy.count(0) - 1, 0, 1);
        due("WORK of 500", heavy.about(top, 1), 500);
    }

    private static void p10dead() {
        CurveFoundry f = withCurves(1);
        due("dead", f.dead(0, 10, 20, -77), 1);
        due("ahead of first", f.value(1, 9), 9);
        due("first", f.value(1, 10), -77);
        due("last", f.value(1, 20), -77);
        due("behind last", f.value(1, 21), 21);
        due("sort", f.about(1, 0), 3);
        due("work", f.about(1, 1), 2);
        due("dead of one", f.dead(0, 5, 5, 1000000), 2);
        due("one", f.value(2, 5), 1000000);
        due("by the VALUE, not the COUNT", f.value(f.dead(f.mirror(0), 0, 95, 3), 4050), 3);
        int made = f.count(0);
        int[][] wrong = {{99, 0, 1, 0}, {-1, 0, 1, 0}, {0, 1, 0, 0}, {0, -1000001, 0, 0}, {0, 0, 1000001, 0},
            {0, 0, 1, 1000001}, {0, 0, 1, -1000001}, {0, Integer.MIN_VALUE, Integer.MAX_VALUE, 0}};
        for (int[] w : wrong) {
            due("wrong dead", f.dead(w[0], w[1], w[2], w[3]), -2);
        }
        due("none made", f.count(0), made);
        due("61st", withCurves(60).dead(0, 0, 1, 0), -2);
        CurveFoundry heavy = withWork(500);
        due("WORK of 501", heavy.dead(heavy.count(0) - 1, 0, 1, 0), -2);
        heavy = withWork(499);
        due("WORK of 500", heavy.about(heavy.dead(heavy.count(0) - 1, 0, 1, 0), 1), 500);
    }

    private static void p11chain() {
        CurveFoundry f = new CurveFoundry();
        int outer = through(f, 0, 11, 1, 20, 100, 20, 4094, 30, 4095, 77);
        int inner = through(f, 0, -5, 10, 5, 20, 9000);
        due("chain", f.chain(outer, inner), 2);
        due("below 0", f.value(2, 0), 11);
        due("at 0", f.value(2, 5), 11);
        due("at 1", f.value(2, 6), 20);
        due("above 4095", f.value(2, 4095), 77);
        due("sort", f.about(2, 0), 4);
        due("work of both", f.about(2, 1), 3);
        due("greatest over all COUNTS", f.about(2, 5), 77);
        due("below 0 once the row is made", f.value(2, 0), 11);
        due("above 4095 once the row is made", f.value(2, 4095), 77);
        due("work of both", f.about(f.chain(2, inner), 1), 5);
        due("the other way", f.value(f.chain(inner, outer), 0), 904);
        int made = f.count(0);
        due("no outer", f.chain(made, 0), -2);
        due("no inner", f.chain(0, made), -2);
        due("below", f.chain(-1, 0), -2);
        due("below", f.chain(0, -1), -2);
        due("none made", f.count(0), made);
        due("61st", withCurves(60).chain(0, 0), -2);
        CurveFoundry heavy = withWork(499);
        due("WORK of 501", heavy.chain(0, heavy.count(0) - 1), -2);
        heavy = withWork(498);
        due("WORK of 500", heavy.about(heavy.chain(0, heavy.count(0) - 1), 1), 500);
    }

    private static void p12gain() {
        CurveFoundry f = withCurves(1);
        due("gain", f.gain(0, 1, 2, 7), 1);
        due("half to even and then more", f.value(1, 1), 7);
        due("half to even and then more", f.value(1, 3), 9);
        due("half to even and then more", f.value(1, 5), 9);
        due("sort", f.about(1, 0), 5);
        due("work", f.about(1, 1), 2);
        due("gain below 0", f.gain(0, -1, 2, 0), 2);
        due("half to even", f.value(2, 3), -2);
        due("half to even", f.value(2, 5), -2);
        due("half to even", f.value(2, 7), -4);
        due("greatest gain", f.gain(0, 1000, 1, -1000000), 3);
        due("beyond only behind more", f.value(3, 1500), 500000);
        due("nearer limit", f.value(3, 2001), 1000000);
        due("lower", f.value(3, 0), -1000000);
        due("lowest gain", f.gain(3, -1000, 1000, 0), 4);
        due("turned", f.value(4, 4095), -1000000);
        due("no gain", f.gain(0, 0, 1000, 1000000), 5);
        due("more alone", f.value(5, 4095), 1000000);
        due("gain of the greatest", f.gain(3, 1000, 1, 0), 6);
        due("nearer limit", f.value(6, 4095), 1000000);
        due("nearer limit", f.value(6, 0), -1000000);
        int[][] wrong = {{7, 1, 1, 0}, {-1, 1, 1, 0}, {0, 1001, 1, 0}, {0, -1001, 1, 0}, {0, 1, 0, 0}, {0, 1, -1, 0},
            {0, 1, 1001, 0}, {0, 1, 1, 1000001}, {0, 1, 1, -1000001}, {0, Integer.MIN_VALUE, 1, 0}};
        for (int[] w : wrong) {
            due("wrong gain", f.gain(w[0], w[1], w[2], w[3]), -2);
        }
        due("none made", f.count(0), 7);
        due("61st", withCurves(60).gain(0, 1, 1, 0), -2);
        CurveFoundry heavy = withWork(500);
        due("WORK of 501", heavy.gain(heavy.count(0) - 1, 1, 1, 0), -2);
        heavy = withWork(499);
        due("WORK of 500", heavy.about(heavy.gain(heavy.count(0) - 1, 1, 1, 0), 1), 500);
    }

    private static void p13mirror() {
        CurveFoundry f = new CurveFoundry();
        through(f, 0, 3, 10, 9);
        due("mirror", f.mirror(0), 1);
        due("at 4095", f.value(1, 4095), 3);
        due("at 0", f.value(1, 0), 9);
        due("at 4094", f.value(1, 4094), 4);
        due("sort", f.about(1, 0), 6);
        due("work", f.about(1, 1), 2);
        due("twice", f.value(f.mirror(1), 0), 3);
        due("no curve", f.mirror(3), -2);
        due("no curve", f.mirror(-1), -2);
        due("none made", f.count(0), 3);
        due("61st", withCurves(60).mirror(0), -2);
        CurveFoundry heavy = withWork(500);
        due("WORK of 501", heavy.mirror(heavy.count(0) - 1), -2);
        heavy = withWork(499);
        due("WORK of 500", heavy.about(heavy.mirror(heavy.count(0) - 1), 1), 500);
    }

    private static void p14value() {
        CurveFoundry f = withCurves(1);
        due("value", f.value(0, 0), 0);
        due("value", f.value(0, 4095), 4095);
        due("no COUNT", f.value(0, -1), NO_VALUE);
        due("no COUNT", f.value(0, 4096), NO_VALUE);
        due("no curve", f.value(1, 0), NO_VALUE);
        due("no curve", f.value(-1, 0), NO_VALUE);
        for (int far : FAR) {
            due("far", f.value(far, 0), NO_VALUE);
            due("far", f.value(0, far), NO_VALUE);
        }
    }

    private static void p15about() {
        CurveFoundry f = new CurveFoundry();
        int rising = through(f, 0, -4, 10, 6);
        int falling = through(f, 4094, 5, 4095, 4);
        int flat = through(f, 9, 3);
        int both = through(f, 0, 0, 10, 10, 20, 10, 30, 5, 40, 5, 50, 6);
        due("RISES", f.about(rising, 2), 1);
        due("FALLS", f.about(falling, 2), -1);
        due("FLAT", f.about(flat, 2), 2);
        due("neither", f.about(both, 2), 0);
        due("TURNS", f.about(both, 3), 2);
        due("no TURNS", f.about(rising, 3), 0);
        due("no TURNS", f.about(flat, 3), 0);
        due("least", f.about(rising, 4), -4);
        due("greatest", f.about(rising, 5), 6);
        due("least", f.about(both, 4), 0);
        due("greatest", f.about(both, 5), 10);
        due("least", f.about(falling, 4), 4);
        due("sort", f.about(both, 0), 1);
        due("work", f.about(both, 1), 1);
        due("what", f.about(both, 6), NO_VALUE);
        due("what", f.about(both, -1), NO_VALUE);
        due("no curve", f.about(4, 2), NO_VALUE);
        due("no curve", f.about(-1, 0), NO_VALUE);
    }

    private static void p16turn() {
        CurveFoundry f = new CurveFoundry();
        int both = through(f, 0, 0, 10, 10, 20, 10, 30, 0, 40, 0, 50, 10);
        due("first, behind level ones", f.turn(both, 0), 21);
        due("second", f.turn(both, 1), 41);
        due("none such", f.turn(both, 2), -1);
        due("none such", f.turn(both, -1), -1);
        due("none such", f.turn(both, Integer.MIN_VALUE), -1);
        due("none such", f.turn(both, Integer.MAX_VALUE), -1);
        int ends = through(f, 0, 0, 1, 1, 2, 0, 4094, 0, 4095, 1);
        due("turn at 2", f.turn(ends, 0), 2);
        due("turn at the last COUNT", f.turn(ends, 1), 4095);
        due("no curve", f.turn(2, 0), -2);
        due("no curve", f.turn(-1, 0), -2);
        int saw = f.chain(through(f, 0, 0, 1, 9, 2, 0), f.gain(through(f, 0, 0, 4095, 4095), 1, 1, 0));
        due("one TURN", f.about(saw, 3), 1);
        due("the first change is none, down", f.turn(through(f, 0, 5, 1, 4), 0), -1);
        due("the first change is none, up", f.about(through(f, 0, 4, 1, 5, 9, 5, 10, 4), 3), 1);
        due("down and up", f.turn(through(f, 0, 5, 3, 2, 4, 3), 0), 4);
    }

    private static void p17inverse() {
        CurveFoundry f = new CurveFoundry();
        int rising = through(f, 10, 0, 20, 100);
        due("least of several", f.inverse(rising, 0), 0);
        due("below all", f.inverse(rising, Integer.MIN_VALUE), 0);
        due("above all", f.inverse(rising, Integer.MAX_VALUE), 20);
        due("just so", f.inverse(rising, 30), 13);
        due("nearest", f.inverse(rising, 34), 13);
        due("nearest", f.inverse(rising, 36), 14);
        due("as near: the least", f.inverse(rising, 35), 13);
        due("as near to level ones: the least", f.inverse(rising, 5), 0);
        int falling = through(f, 10, 100, 20, 0);
        due("falling", f.inverse(falling, 70), 13);
        due("as near: the least", f.inverse(falling, 65), 13);
        due("nearest", f.inverse(falling, 64), 14);
        due("above all", f.inverse(falling, Integer.MAX_VALUE), 0);
        due("below all", f.inverse(falling, Integer.MIN_VALUE), 20);
        due("FLAT", f.inverse(through(f, 5, 5), 77), 0);
        due("neither", f.inverse(through(f, 0, 0, 1, 1, 2, 0), 0), -1);
        due("no curve", f.inverse(4, 0), -2);
        due("no curve", f.inverse(-1, 0), -2);
    }

    private static void p18residual() {
        CurveFoundry f = withCurves(1);
        f.reading(0, 100, 90, 5);
        f.reading(0, 100, 115, 1);
        due("below", f.residual(0, 0, 0), -10);
        due("above", f.residual(0, 1, 0), 15);
        due("no READING", f.residual(0, 2, 0), NO_VALUE);
        due("no READING", f.residual(0, -1, 0), NO_VALUE);
        due("no SENSOR", f.residual(8, 0, 0), NO_VALUE);
        due("no SENSOR", f.residual(-1, 0, 0), NO_VALUE);
        due("no curve", f.residual(0, 0, 1), NO_VALUE);
        due("no curve", f.residual(0, 0, -1), NO_VALUE);
        f.reading(1, 0, 10000, 1);
        due("greatest", f.residual(1, 0, f.gain(0, 1, 1, -1000000)), 1010000);
    }

    private static void p19worst() {
        CurveFoundry f = withCurves(1);
        due("none", f.worst(0, 0), -1);
        f.reading(0, 100, 100, 20);
        due("no residual", f.worst(0, 0), 0);
        f.reading(0, 100, 95, 1);
        f.reading(0, 100, 105, 20);
        due("without sign or WEIGHT, the least number", f.worst(0, 0), 1);
        f.reading(0, 100, 106, 1);
        due("greatest", f.worst(0, 0), 3);
        due("no SENSOR", f.worst(8, 0), -2);
        due("no SENSOR", f.worst(-1, 0), -2);
        due("no curve", f.worst(0, 1), -2);
        due("no curve", f.worst(0, -1), -2);
        due("no curve and no READINGS", f.worst(1, 1), -2);
    }

    private static void p20squares() {
        CurveFoundry f = withCurves(1);
        due("none", f.squares(0, 0), 0);
        f.reading(0, 100, 103, 2);
        f.reading(0, 50, 46, 5);
        due("sum", f.squares(0, 0), 2 * 9 + 5 * 16);
        int low = f.gain(0, 0, 1, -1000000);
        for (int i = 0; i < 24; i++) {
            f.reading(1, i, 10000, 20);
        }
        due("greatest", f.squares(1, low), 480L * 1010000 * 1010000);
        due("no SENSOR", f.squares(8, 0), -2);
        due("no SENSOR", f.squares(-1, 0), -2);
        due("no curve", f.squares(0, 2), -2);
        due("no curve", f.squares(0, -1), -2);
    }

    private static void p21drift() {
        CurveFoundry f = withCurves(1);
        due("none", f.drift(0, 0), NO_VALUE);
        f.reading(0, 100, 105, 1);
        due("one", f.drift(0, 0), 5);
        f.reading(0, 100, 100, 1);
        due("half to even", f.drift(0, 0), 2);
        f.reading(1, 100, 97, 3);
        f.reading(1, 100, 100, 3);
        due("half to even, below 0", f.drift(1, 0), -2);
        f.reading(1, 100, 100, 12);
        due("half to even, to 0", f.drift(1, 0), 0);
        f.reading(2, 100, 99, 3);
        f.reading(2, 100, 100, 1);
        due("by WEIGHT", f.drift(2, 0), -1);
        due("no SENSOR", f.drift(8, 0), NO_VALUE);
        due("no SENSOR", f.drift(-1, 0), NO_VALUE);
        due("no curve", f.drift(0, 1), NO_VALUE);
        due("no curve", f.drift(0, -1), NO_VALUE);
    }

    private static void p22probe() {
        CurveFoundry f = withCurves(1);
        due("probe", f.probe(0, 0, 0, 1), 1);
        due("probe", f.probe(3, 0, 2, 9), 1);
        f.feed(3, 10);
        f.feed(3, 20);
        int[][] wrong = {{-1, 0, 0, 1}, {4, 0, 0, 1}, {3, 1, 0, 1}, {3, -1, 0, 1}, {3, 0, -1, 1}, {3, 0, 3, 1},
            {3, 0, 0, 0}, {3, 0, 0, 10}};
        for (int[] w : wrong) {
            due("wrong probe", f.probe(w[0], w[1], w[2], w[3]), -2);
        }
        due("nothing is changed", f.probed(3), 15);
        due("nothing is changed", f.feed(3, 30), 20);
        due("probe", f.probe(3, 0, 2, 9), 1);
        due("forgotten", f.probed(3), NO_VALUE);
        due("forgotten", f.feed(3, 2), 2);
    }

    private static void p23feed() {
        CurveFoundry f = withCurves(1);
        f.probe(0, 0, 0, 9);
        due("latest", f.feed(0, 9), 9);
        due("latest", f.feed(0, 4), 4);
        f.probe(1, 0, 1, 3);
        int[] in = {5, 9, 1, 1, 7, 8, 7};
        int[] middle = {5, 5, 5, 1, 1, 7, 7};
        for (int i = 0; i < in.length; i++) {
            due("middle of 3", f.feed(1, in[i]), middle[i]);
        }
        f.probe(1, 0, 1, 9);
        int[] ins = {9, 8, 7, 6, 5, 4, 3, 2, 1, 0, 4095};
        int[] of9 = {9, 8, 8, 7, 7, 6, 6, 5, 5, 4, 4};
        for (int i = 0; i < ins.length; i++) {
            due("middle of 9", f.feed(1, ins[i]), of9[i]);
        }
        f.probe(2, 0, 2, 2);
        int[] to = {1, 2, 3, 4, 4095, 4095};
        int[] mean = {1, 2, 2, 4, 2050, 4095};
        for (int i = 0; i < to.length; i++) {
            due("mean of 2", f.feed(2, to[i]), mean[i]);
        }
        due("no COUNT", f.feed(2, 4096), -2);
        due("no COUNT", f.feed(2, -1), -2);
        due("nothing was fed", f.feed(2, 0), 2048);
        due("no PROBE", f.feed(4, 0), -2);
        due("no PROBE", f.feed(-1, 0), -2);
        due("PROBE without a curve", f.feed(3, 77), 77);
        f.probe(3, 0, 1, 1);
        due("middle of 1", f.feed(3, 5), 5);
        due("middle of 1", f.feed(3, 3), 3);
    }

    private static void p24probed() {
        CurveFoundry f = new CurveFoundry();
        int curve = through(f, 0, 100, 4095, 4195);
        due("no curve", f.probed(0), NO_VALUE);
        f.feed(0, 10);
        due("no curve", f.probed(0), NO_VALUE);
        f.probe(0, curve, 2, 2);
        due("nothing fed since", f.probed(0), NO_VALUE);
        f.feed(0, 10);
        f.feed(0, 21);
        due("at what the FILTER gave", f.probed(0), 116);
        f.feed(0, 4096);
        due("refused feed", f.probed(0), 116);
        due("no PROBE", f.probed(4), NO_VALUE);
        due("no PROBE", f.probed(-1), NO_VALUE);
    }

    private static void p25table() {
        CurveFoundry f = withCurves(1);
        due("by 16", f.table(0, 0, 16), 257);
        due("by 64", f.table(1, 0, 64), 65);
        due("by 256", f.table(3, 0, 256), 17);
        int[] wrong = {0, -16, 1, 15, 17, 32, 128, 255, 257, 512, 4096, Integer.MIN_VALUE, Integer.MAX_VALUE};
        for (int step : wrong) {
            due("no STEP", f.table(2, 0, step), -2);
        }
        due("no TABLE", f.table(4, 0, 16), -2);
        due("no TABLE", f.table(-1, 0, 16), -2);
        due("no curve", f.table(2, 1, 16), -2);
        due("no curve", f.table(2, -1, 16), -2);
        due("none made", f.count(3), 3);
        due("made anew", f.table(0, 0, 256), 17);
        Check.dueExactly("fewer ENTRIES", f.entry(0, 17), NO_VALUE);
        due("refused", f.table(0, 0, 7), -2);
        Check.dueExactly("as it was", f.entry(0, 16), 4095f * 0.001f);
    }

    private static void p26entry() {
        CurveFoundry f = new CurveFoundry();
        int curve = through(f, 0, -7, 16, 333, 4080, 1, 4095, 9999);
        f.table(0, curve, 16);
        Check.dueExactly("first", f.entry(0, 0), -7f * 0.001f);
        Check.dueExactly("second", f.entry(0, 1), 333f * 0.001f);
        Check.dueExactly("last but one", f.entry(0, 255), 1f * 0.001f);
        Check.dueExactly("last, at 4095", f.entry(0, 256), 9999f * 0.001f);
        Check.dueExactly("beyond", f.entry(0, 257), NO_VALUE);
        Check.dueExactly("below", f.entry(0, -1), NO_VALUE);
        Check.dueExactly("none yet", f.entry(1, 0), NO_VALUE);
        Check.dueExactly("no TABLE", f.entry(4, 0), NO_VALUE);
        Check.dueExactly("no TABLE", f.entry(-1, 0), NO_VALUE);
        f.table(1, f.gain(curve, 1000, 1, 0), 64);
        Check.dueExactly("greatest", f.entry(1, 64), 1000000f * 0.001f);
    }

    private static void p27lookup() {
        CurveFoundry f = new CurveFoundry();
        int curve = through(f, 0, -10, 64, 333, 128, -77, 4032, 5, 4095, 9999);
        f.table(2, curve, 64);
        float first = -10f * 0.001f;
        float second = 333f * 0.001f;
        Check.dueExactly("at an ENTRY", f.lookup(2, 0), first);
        Check.dueExactly("between", f.lookup(2, 63), first + (second - first) * (63f / 64f));
        Check.dueExactly("at the next", f.lookup(2, 64), second);
        float third = -77f * 0.001f;
        Check.dueExactly("falling", f.lookup(2, 65), second + (third - second) * (1f / 64f));
        float ahead = 5f * 0.001f;
        float last = 9999f * 0.001f;
        Check.dueExactly("at 4095 not yet the last", f.lookup(2, 4095), ahead + (last - ahead) * (63f / 64f));
        Check.dueExactly("no COUNT", f.lookup(2, 4096), NO_VALUE);
        Check.dueExactly("no COUNT", f.lookup(2, -1), NO_VALUE);
        Check.dueExactly("none yet", f.lookup(1, 0), NO_VALUE);
        Check.dueExactly("no TABLE", f.lookup(4, 0), NO_VALUE);
        Check.dueExactly("no TABLE", f.lookup(-1, 0), NO_VALUE);
    }

    private static void p28off() {
        CurveFoundry f = new CurveFoundry();
        int flat = through(f, 0, 0);
        int peak = through(f, 127, 0, 128, 1000, 129, 0);
        f.table(0, flat, 16);
        Check.dueExactly("not OFF", f.off(0), 0.0);
        f.table(0, peak, 256);
        Check.dueExactly("OFF at the peak between ENTRIES", f.off(0), 1000 * 0.001);
        f.table(0, peak, 64);
        float e = 1000f * 0.001f;
        Check.dueExactly("OFF beside the ENTRY at the peak", f.off(0), (double) (0f + (e - 0f) * (63f / 64f)));
        f.table(0, f.gain(peak, -1, 1, 0), 256);
        Check.dueExactly("without sign", f.off(0), 1000 * 0.001);
        f.table(0, flat, 256);
        Check.dueExactly("measured anew", f.off(0), 0.0);
        Check.dueExactly("none yet", f.off(1), NO_VALUE);
        Check.dueExactly("no TABLE", f.off(4), NO_VALUE);
        Check.dueExactly("no TABLE", f.off(-1), NO_VALUE);
    }

    private static void p29offAt() {
        CurveFoundry f = new CurveFoundry();
        int flat = through(f, 0, 0);
        int peaks = through(f, 127, 0, 128, 1000, 129, 0, 300, 0, 301, -1000, 302, 0, 304, 0, 305, 1000, 306, 0);
        f.table(0, flat, 16);
        due("never OFF: the least COUNT", f.offAt(0), 0);
        f.table(0, peaks, 256);
        due("the least COUNT of three", f.offAt(0), 128);
        f.table(0, flat, 16);
        due("measured anew", f.offAt(0), 0);
        due("none yet", f.offAt(1), -2);
        due("no TABLE", f.offAt(4), -2);
        due("no TABLE", f.offAt(-1), -2);
    }

    private static void p30bank() {
        CurveFoundry f = new CurveFoundry();
        for (int b = 0; b < 8; b++) {
            due("of 0 places", f.bank(b, 0), 0);
            due("no place", f.held(b, 0), NO_PLACE);
            due("bank", f.bank(b, 64), 64);
            due("of 0", f.held(b, 63), 0);
            f.hold(b, 63, 1);
            f.hold(b, 0, 1);
            due("above 64", f.bank(b, 65), -2);
            due("above 64", f.bank(b, Integer.MAX_VALUE), -2);
            due("below 0", f.bank(b, -1), NO_SIZE);
            due("below 0", f.bank(b, Integer.MIN_VALUE), NO_SIZE);
            due("then nothing is done", f.held(b, 63), 1);
            due("a shorter one", f.bank(b, 1), 1);
            due("new", f.held(b, 0), 0);
            due("no place any more", f.held(b, 1), NO_PLACE);
            due("a longer one", f.bank(b, 64), 64);
            due("new", f.held(b, 63), 0);
        }
        due("no BANK", f.bank(8, 1), -2);
        due("no BANK", f.bank(-1, 1), -2);
        due("no BANK, ahead of the size", f.bank(8, -1), -2);
    }

    private static void p31free() {
        CurveFoundry f = new CurveFoundry();
        for (int b = 0; b < 8; b++) {
            due("had none", f.free(b), 0);
            f.bank(b, 3);
            f.hold(b, 1, 1);
            due("had one", f.free(b), 1);
            due("has none", f.held(b, 1), NO_ROW);
            due("has none", f.hold(b, 1, 1), NO_ROW);
            due("had none", f.free(b), 0);
            f.bank(b, 0);
            due("had one of 0 places", f.free(b), 1);
            f.bank(b, 3);
            due("a new one is of 0", f.held(b, 1), 0);
        }
        due("no BANK", f.free(8), -2);
        due("no BANK", f.free(-1), -2);
    }

    private static void p32hold() {
        CurveFoundry f = new CurveFoundry();
        for (int b = 0; b < 8; b++) {
            due("no row", f.hold(b, 0, 1), NO_ROW);
            due("no row ahead of no place", f.hold(b, -1, 1), NO_ROW);
            f.bank(b, 3);
            due("no place", f.hold(b, 3, 1), NO_PLACE);
            due("no place", f.hold(b, -1, 1), NO_PLACE);
            due("no place", f.hold(b, Integer.MAX_VALUE, 1), NO_PLACE);
            due("no place", f.hold(b, Integer.MIN_VALUE, 1), NO_PLACE);
        }
        long[] given = {-1L, 0x123456789ABCDEF0L, Long.MAX_VALUE, Long.MIN_VALUE, 0x80L, 0x8000L, 0x80000000L, 7L};
        long[][] due = {
            {-1, (byte) 0xF0, -1, 0, -128, 0, 0, 7},
            {65535, 0xDEF0, 65535, 0, 128, 32768, 0, 7},
            {-1, (short) 0xDEF0, -1, 0, 128, -32768, 0, 7},
            {-1, 0x9ABCDEF0, -1, 0, 128, 32768, Integer.MIN_VALUE, 7},
            {-1, 0x123456789ABCDEF0L, Long.MAX_VALUE, Long.MIN_VALUE, 128, 32768, 2147483648L, 7},
            {-1, 0x1234568000000000L, Long.MAX_VALUE, Long.MIN_VALUE, 128, 32768, 2147483648L, 7},
            {-1, 0x123456789ABCDF00L, Long.MAX_VALUE, Long.MIN_VALUE, 128, 32768, 2147483648L, 7},
            {1, 0, 1, 0, 0, 0, 0, 1}};
        for (int b = 0; b < 8; b++) {
            for (int k = 0; k < given.length; k++) {
                due("hold " + b + " " + given[k], f.hold(b, 1, given[k]), due[b][k]);
                due("held " + b + " " + given[k], f.held(b, 1), due[b][k]);
                due("ahead of it", f.held(b, 0), 0);
                due("behind it", f.held(b, 2), 0);
            }
        }
        due("odd below 0", f.hold(7, 0, -3), 1);
        due("no BANK", f.hold(8, 0, 1), -2);
        due("no BANK", f.hold(-1, 0, 1), -2);
    }

    private static void p33held() {
        CurveFoundry f = new CurveFoundry();
        for (int b = 0; b < 8; b++) {
            due("no row", f.held(b, 0), NO_ROW);
            due("no row ahead of no place", f.held(b, 64), NO_ROW);
            f.bank(b, 2);
            f.hold(b, 1, 1);
            due("held", f.held(b, 1), 1);
            due("held", f.held(b, 0), 0);
            due("no place", f.held(b, 2), NO_PLACE);
            due("no place", f.held(b, -1), NO_PLACE);
            due("no place", f.held(b, Integer.MIN_VALUE), NO_PLACE);
        }
        due("no BANK", f.held(8, 0), -2);
        due("no BANK", f.held(-1, 0), -2);
    }

    private static void p34readings() {
        CurveFoundry f = new CurveFoundry();
        f.reading(7, 1, 1, 1);
        f.reading(7, 1, 1, 1);
        due("readings", f.readings(7), 2);
        due("readings", f.readings(0), 0);
        due("no SENSOR", f.readings(8), -2);
        due("no SENSOR", f.readings(-1), -2);
        f.drop(7, 0);
        due("readings", f.readings(7), 1);
    }

    private static void p35count() {
        CurveFoundry f = withCurves(2);
        f.knot(1, 1);
        f.knot(2, 1);
        f.knot(3, 1);
        f.reading(0, 1, 1, 1);
        f.reading(0, 2, 1, 1);
        f.reading(7, 2, 1, 1);
        f.table(0, 0, 16);
        f.table(0, 1, 64);
        f.bank(0, 0);
        f.bank(7, 1);
        f.bank(7, 2);
        f.bank(3, 64);
        f.bank(4, 1);
        due("curves", f.count(0), 2);
        due("KNOTS", f.count(1), 3);
        due("SENSORS", f.count(2), 2);
        due("TABLES", f.count(3), 1);
        due("BANKS", f.count(4), 4);
        f.drop(7, 0);
        f.free(3);
        due("SENSORS", f.count(2), 1);
        due("BANKS", f.count(4), 3);
        due("what", f.count(5), -2);
        due("what", f.count(-1), -2);
    }

    private static void makers() {
        p1();
        p2reading();
        p3drop();
        p4line();
        p5knot();
        p6hush();
        p7pieces();
        p8gather();
        p9clamp();
        p10dead();
        p11chain();
        p12gain();
        p13mirror();
    }

    private static void askers() {
        p14value();
        p15about();
        p16turn();
        p17inverse();
        p18residual();
        p19worst();
        p20squares();
        p21drift();
    }

    private static void devices() {
        p22probe();
        p23feed();
        p24probed();
        p25table();
        p26entry();
        p27lookup();
        p28off();
        p29offAt();
        p30bank();
        p31free();
        p32hold();
        p33held();
        p34readings();
        p35count();
    }

    public static void main(String[] args) {
        makers();
        askers();
        devices();
        Check.finish();
    }
}

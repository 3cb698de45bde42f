/** The document's terms, sentence by sentence: what each says of the least, the greatest, none, and too many. */
public final class TermsEdgesTest {
    private static final int NO_VALUE = -2000000;
    private static final int[] ZIGZAG = zigzag();

    private TermsEdgesTest() {
    }

    private static void due(String call, double got, double want) {
        Document.due(call, got, want);
    }

    private static int[] zigzag() {
        int[] told = new int[64];
        for (int i = 0; i < 32; i++) {
            told[2 * i] = i == 31 ? 4095 : 132 * i;
            told[2 * i + 1] = i % 2 == 0 ? 0 : 4095;
        }
        return told;
    }

    /** A curve whose VALUE at COUNT x is x less 2000. */
    private static int signedRamp(CurveFoundry f) {
        return Workshop.through(f, 0, -2000, 4000, 2000);
    }

    private static void dueAt(CurveFoundry f, int c, int from, int... wanted) {
        for (int i = 0; i < wanted.length; i++) {
            due("value(" + c + ", " + (from + i) + ")", f.value(c, from + i), wanted[i]);
        }
    }

    private static void roundingOfGain() {
        CurveFoundry f = new CurveFoundry();
        int ramp = signedRamp(f);
        dueAt(f, f.gain(ramp, 1, 2, 0), 1993, -4, -3, -2, -2, -2, -1, 0, 0, 0, 1, 2, 2, 2, 3, 4);
        dueAt(f, f.gain(ramp, -1, 2, 0), 1993, 4, 3, 2, 2, 2, 1, 0, 0, 0, -1, -2, -2, -2, -3, -4);
        dueAt(f, f.gain(ramp, 1, 3, 0), 1996, -1, -1, -1, 0, 0, 0, 1, 1, 1, 2);
        dueAt(f, f.gain(ramp, 1, 4, 0), 1994, -2, -1, -1, -1, 0, 0, 0, 0, 0, 1, 1, 1, 2, 2, 2, 2, 2, 3);
        int thousandth = f.gain(ramp, 1, 1000, 0);
        dueAt(f, thousandth, 2499, 0, 0, 1);
        dueAt(f, thousandth, 3499, 1, 2, 2);
        dueAt(f, thousandth, 1499, -1, 0, 0);
        dueAt(f, thousandth, 499, -2, -2, -1);
        due("an odd number more does not change which is even", f.value(f.gain(ramp, 1, 2, 1), 2001), 1);
    }

    private static void roundingOfLinesAndPieces() {
        CurveFoundry f = new CurveFoundry();
        dueAt(f, Workshop.through(f, 0, 0, 2, 1, 4, 2, 6, 1, 8, 0, 10, -1, 12, -2), 0,
            0, 0, 1, 2, 2, 2, 1, 0, 0, 0, -1, -2, -2);
        dueAt(f, Workshop.through(f, 0, 0, 3, 1, 6, -1), 0, 0, 0, 1, 1, 0, 0, -1);
        f.reading(0, 0, -2, 1);
        f.reading(0, 8, 2, 1);
        dueAt(f, f.line(0), 0, -2, -2, -1, 0, 0, 0, 1, 2, 2, 2, 3, 4, 4);
        f.reading(1, 4000, -2, 3);
        f.reading(1, 4006, -4, 5);
        dueAt(f, f.line(1), 3997, -1, -1, -2, -2, -2, -3, -3, -3, -4, -4);
    }

    private static void roundingOfMeans() {
        CurveFoundry f = new CurveFoundry();
        int none = Workshop.through(f, 0, 0);
        int[][] pairs = {{0, 1, 0}, {1, 2, 2}, {2, 3, 2}, {0, -1, 0}, {-1, -2, -2}, {-2, -3, -2}, {-3, -4, -4}};
        for (int[] pair : pairs) {
            CurveFoundry g = new CurveFoundry();
            Workshop.through(g, 0, 0);
            g.reading(0, 5, pair[0], 7);
            g.reading(0, 5, pair[1], 7);
            due("drift of " + pair[0] + ", " + pair[1], g.drift(0, none), pair[2]);
            due("gather", g.gather(0), 1);
            due("mean of " + pair[0] + ", " + pair[1], g.value(g.pieces(), 5), pair[2]);
        }
        f.reading(0, 5, 0, 11);
        f.reading(0, 5, 1, 10);
        due("drift just below a half", f.drift(0, none), 0);
        f.reading(0, 5, 1, 2);
        due("drift just above a half", f.drift(0, none), 1);
        f.probe(0, none, 2, 2);
        int[] fed = {0, 1, 2, 3, 4, 4095, 4094};
        int[] given = {0, 0, 2, 2, 4, 2050, 4094};
        for (int i = 0; i < fed.length; i++) {
            due("feed(0, " + fed[i] + ")", f.feed(0, fed[i]), given[i]);
        }
    }

    private static void rounding() {
        Document.says("ROUNDING a fraction: to the nearest whole number, of two the even one.");
        roundingOfGain();
        roundingOfLinesAndPieces();
        roundingOfMeans();
    }

    private static void counts() {
        Document.says("COUNTS are 0 to 4095.");
        CurveFoundry f = Workshop.standard();
        due("reading(1, 0, ..)", f.reading(1, 0, 1, 1), 1);
        due("reading(1, 4095, ..)", f.reading(1, 4095, 1, 1), 2);
        due("hush()", f.hush(), 3);
        due("knot(0, ..)", f.knot(0, 1), 1);
        due("knot(4095, ..)", f.knot(4095, 1), 2);
        due("value(.., 0)", f.value(Workshop.RAMP, 0), 0);
        due("value(.., 4095)", f.value(Workshop.RAMP, 4095), 4095);
        due("feed(.., 0)", f.feed(3, 0), 0);
        due("feed(.., 4095)", f.feed(3, 4095), 4095);
        due("lookup(.., 0)", f.lookup(2, 0), 0.0);
        float ahead = 3840f * 0.001f;
        due("lookup(.., 4095)", f.lookup(2, 4095), ahead + (4095f * 0.001f - ahead) * (255f / 256f));
        for (int x : Workshop.beyond(0, 4095)) {
            Workshop.refuses(Workshop::standard, "reading at " + x, -2, g -> g.reading(1, x, 1, 1));
            Workshop.refuses(CurveFoundry::new, "knot at " + x, -2, g -> g.knot(x, 1));
            Workshop.refuses(Workshop::standard, "value at " + x, NO_VALUE, g -> g.value(Workshop.RAMP, x));
            Workshop.refuses(Workshop::standard, "feed of " + x, -2, g -> g.feed(0, x));
            Workshop.refuses(Workshop::standard, "lookup at " + x, NO_VALUE, g -> g.lookup(2, x));
        }
    }

    private static void valuesOfLines() {
        CurveFoundry f = new CurveFoundry();
        f.reading(0, 0, -9999, 1);
        f.reading(0, 1, 1, 1);
        int rising = f.line(0);
        dueAt(f, rising, 100, 990001, 1000000, 1000000);
        due("value(.., 4095)", f.value(rising, 4095), 1000000);
        due("least", f.about(rising, 4), -9999);
        due("greatest", f.about(rising, 5), 1000000);
        due("level where it would be beyond, so it RISES", f.about(rising, 2), 1);
        due("inverse(.., 1000001)", f.inverse(rising, 1000001), 101);
        f.reading(1, 0, 9999, 1);
        f.reading(1, 1, -1, 1);
        int falling = f.line(1);
        dueAt(f, falling, 100, -990001, -1000000, -1000000);
        due("least", f.about(falling, 4), -1000000);
        f.reading(2, 0, 0, 1);
        f.reading(2, 1, 10000, 1);
        dueAt(f, f.line(2), 99, 990000, 1000000, 1000000);
        f.reading(3, 4094, 10000, 1);
        f.reading(3, 4095, -10000, 1);
        int steep = f.line(3);
        due("the steepest at 0", f.value(steep, 0), 1000000);
        due("the steepest at 4095", f.value(steep, 4095), -10000);
    }

    private static void valuesOfGains() {
        CurveFoundry f = new CurveFoundry();
        int ramp = signedRamp(f);
        dueAt(f, f.gain(ramp, 1000, 1, 0), 2999, 999000, 1000000, 1000000);
        dueAt(f, f.gain(ramp, 1000, 1, 0), 999, -1000000, -1000000, -999000);
        dueAt(f, f.gain(ramp, 1, 1, 999999), 2000, 999999, 1000000, 1000000);
        dueAt(f, f.gain(ramp, 1, 1, -999999), 1998, -1000000, -1000000, -999999);
        int wide = f.gain(ramp, 1000, 1, 0);
        due("half of what was limited", f.value(f.gain(wide, 1, 2, 0), 4000), 500000);
        due("half of what was limited", f.value(f.gain(wide, 1, 2, 0), 0), -500000);
        int wider = f.gain(wide, 1000, 1, 1000000);
        due("the greatest of all", f.value(wider, 4000), 1000000);
        due("the least of all, and more", f.value(wider, 0), -1000000);
        due("the greatest of all, turned", f.value(f.gain(wide, -1000, 1, -1000000), 4000), -1000000);
    }

    private static void values() {
        Document.says("All VALUES of curves are whole, -1000000 to 1000000"
            + " (what would be beyond is the nearer one of these).");
        valuesOfLines();
        valuesOfGains();
    }

    private static void sensors() {
        Document.says("SENSORS 0 to 7");
        CurveFoundry f = new CurveFoundry();
        for (int s = 0; s < 8; s++) {
            for (int i = 0; i <= s; i++) {
                due("reading(" + s + ", ..)", f.reading(s, i, s, 1), i + 1);
            }
        }
        for (int s = 0; s < 8; s++) {
            due("each has its own", f.readings(s), s + 1);
        }
        for (int s : Workshop.beyond(0, 7)) {
            due("readings(" + s + ")", f.readings(s), -2);
        }
        Document.says("each with READINGS, 24 at most");
        for (int i = 8; i < 24; i++) {
            due("reading", f.reading(7, i, 7, 1), i + 1);
        }
        due("reading 25", f.reading(7, 24, 7, 1), -2);
        due("drop", f.drop(7, 23), 23);
        due("room again", f.reading(7, 24, 7, 1), 24);
        due("reading 25", f.reading(7, 24, 7, 1), -2);
        due("another SENSOR has room", f.reading(6, 24, 7, 1), 8);
    }

    private static void readings() {
        Document.says("numbered from 0 as they come");
        CurveFoundry f = new CurveFoundry();
        int none = Workshop.through(f, 0, 0);
        f.reading(0, 4095, 30, 1);
        f.reading(0, 0, 10, 1);
        f.reading(0, 4095, 20, 1);
        due("READING 0", f.residual(0, 0, none), 30);
        due("READING 1", f.residual(0, 1, none), 10);
        due("READING 2", f.residual(0, 2, none), 20);
        due("READING 3", f.residual(0, 3, none), NO_VALUE);
        Document.says("a COUNT, a REFERENCE (-10000 to 10000), a WEIGHT (1 to 20).");
        due("the least", f.reading(1, 0, -10000, 1), 1);
        due("the greatest", f.reading(1, 4095, 10000, 20), 2);
        due("its REFERENCE", f.residual(1, 0, none), -10000);
        due("its REFERENCE", f.residual(1, 1, none), 10000);
        Document.dueLong("the WEIGHTS", f.squares(1, none), 21L * 10000 * 10000);
    }

    private static void curves() {
        Document.says("CURVES are numbered from 0 as they are made, 60 at most");
        CurveFoundry f = new CurveFoundry();
        f.reading(0, 1, 1, 1);
        f.reading(0, 2, 1, 1);
        due("none yet", f.about(0, 0), NO_VALUE);
        for (int c = 0; c < 60; c++) {
            due("a LINE", f.line(0), c);
            due("none behind it", f.about(c + 1, 0), NO_VALUE);
        }
        due("count(0)", f.count(0), 60);
        due("the 61st", f.line(0), -2);
        due("count(0)", f.count(0), 60);
        due("the last one", f.value(59, 7), 1);
        Document.says("each tells a VALUE at each COUNT x.");
        for (int c = 0; c < Workshop.CURVES; c++) {
            CurveFoundry g = Workshop.standard();
            for (int x = 0; x < 4096; x += 315) {
                int v = g.value(c, x);
                Check.holds(Document.place() + "value(" + c + ", " + x + ")", v >= -1000000 && v <= 1000000);
            }
        }
    }

    private static void dueAsSlow(int[][] readings) {
        SlowFoundry slow = new SlowFoundry();
        CurveFoundry f = new CurveFoundry();
        for (int[] r : readings) {
            due("reading", f.reading(0, r[0], r[1], r[2]), slow.reading(0, r[0], r[1], r[2]));
        }
        due("line", f.line(0), slow.line(0));
        for (int x = 0; x < 4096; x += 9) {
            due("value at " + x, f.value(0, x), slow.value(0, x));
        }
        due("value at 1", f.value(0, 1), slow.value(0, 1));
        due("value at 4094", f.value(0, 4094), slow.value(0, 4094));
    }

    /** What makes the sums greatest: all READINGS heavy, far off, and most of them at one end. */
    private static void lines() {
        Document.says("SORTS: 0 LINE: A and B times x, ROUNDED, A and B (fractions) being those for which the sum"
            + " over the READINGS of a SENSOR, as they were then, of WEIGHT times the square of REFERENCE less A less"
            + " B times COUNT is least.");
        int[][] ends = {{0, 4095}, {4094, 4095}, {0, 1}, {1, 4094}};
        for (int[] end : ends) {
            for (int many = 1; many < 24; many += 11) {
                for (int sign = -1; sign <= 1; sign += 2) {
                    int[][] readings = new int[24][];
                    for (int i = 0; i < 24; i++) {
                        readings[i] = new int[] {end[i < many ? 0 : 1], i < many ? -sign * 10000 : sign * 10000, 20};
                    }
                    dueAsSlow(readings);
                }
            }
        }
        dueAsSlow(new int[][] {{4095, 10000, 20}, {4094, 10000, 1}});
        dueAsSlow(new int[][] {{17, -10000, 1}, {4095, 9999, 20}, {17, 3, 20}});
        linesKeepTheirReadings();
    }

    private static void linesKeepTheirReadings() {
        CurveFoundry f = new CurveFoundry();
        f.reading(0, 0, 10, 1);
        f.reading(0, 10, 20, 1);
        int line = f.line(0);
        f.reading(0, 20, -10000, 20);
        f.drop(0, 0);
        due("as they were then", f.value(line, 5), 15);
        due("greatest, as they were then", f.about(line, 5), 4105);
        f.drop(0, 0);
        f.drop(0, 0);
        due("with none left", f.value(line, 10), 20);
        f.reading(1, 0, 0, 1);
        f.reading(1, 0, 300, 2);
        f.reading(1, 100, 400, 1);
        int weighted = f.line(1);
        due("two at one COUNT, by WEIGHT", f.value(weighted, 0), 200);
        due("and the one beside", f.value(weighted, 100), 400);
    }

    private static void pieces() {
        Document.says("1 PIECES: through KNOTS (COUNTS that rise, with a VALUE each),"
            + " between two of them the straight line, ROUNDED");
        CurveFoundry f = new CurveFoundry();
        int c = Workshop.through(f, 0, -10000, 1, 10000, 2, -10000, 4094, 10000, 4095, -10000);
        dueAt(f, c, 0, -10000, 10000, -10000, -9995, -9990);
        dueAt(f, c, 4092, 9990, 9995, 10000, -10000);
        Document.says("ahead of the first one its VALUE, behind the last one that one's.");
        int inner = Workshop.through(f, 100, 7, 200, -9);
        dueAt(f, inner, 0, 7, 7);
        dueAt(f, inner, 98, 7, 7, 7, 7, 7, 7, 6);
        dueAt(f, inner, 199, -9, -9, -9);
        due("at 4095", f.value(inner, 4095), -9);
        int one = Workshop.through(f, 100, 5);
        dueAt(f, one, 99, 5, 5, 5);
        int first = Workshop.through(f, 0, 5);
        dueAt(f, first, 0, 5, 5);
        int last = Workshop.through(f, 4095, -5);
        dueAt(f, last, 4094, -5, -5);
        due("at 0", f.value(last, 0), -5);
    }

    private static void clampsAndDeads() {
        CurveFoundry f = new CurveFoundry();
        int ramp = signedRamp(f);
        Document.says("2 CLAMP of a curve: its VALUE, but low if it is below that, high if it is above.");
        dueAt(f, f.clamp(ramp, -1, 1), 1997, -1, -1, -1, 0, 1, 1, 1);
        dueAt(f, f.clamp(ramp, 0, 0), 1999, 0, 0, 0);
        due("all below", f.value(f.clamp(ramp, 1000000, 1000000), 4095), 1000000);
        due("all above", f.value(f.clamp(ramp, -1000000, -1000000), 0), -1000000);
        due("none beyond", f.value(f.clamp(ramp, -1000000, 1000000), 0), -2000);
        Document.says("3 DEAD of a curve: its VALUE, but rest if it is from first to last.");
        dueAt(f, f.dead(ramp, -1, 1, 9), 1997, -3, -2, 9, 9, 9, 2, 3);
        dueAt(f, f.dead(ramp, 0, 0, -9), 1999, -1, -9, 1);
        dueAt(f, f.dead(ramp, -1000000, 1000000, 1000000), 1999, 1000000, 1000000);
        dueAt(f, f.dead(ramp, 2001, 1000000, 5), 3999, 1999, 2000, 2000);
        dueAt(f, f.dead(ramp, -1000000, -2001, 5), 0, -2000, -1999);
    }

    private static void chains() {
        Document.says("4 CHAIN of a curve OUTER and one INNER: OUTER's VALUE at the COUNT that is INNER's VALUE at x"
            + " (0 if it is below 0, 4095 if it is above).");
        CurveFoundry f = new CurveFoundry();
        int outer = Workshop.through(f, 0, 50, 1, 60, 2, 70, 4093, 80, 4094, 90, 4095, 100);
        dueAt(f, f.chain(outer, signedRamp(f)), 1998, 50, 50, 50, 60, 70, 70);
        int high = f.gain(signedRamp(f), 1, 1, 4094);
        dueAt(f, f.chain(outer, high), 1999, 80, 90, 100, 100, 100);
        int far = f.gain(signedRamp(f), 1000, 1, 0);
        due("far below", f.value(f.chain(outer, far), 0), 50);
        due("far above", f.value(f.chain(outer, far), 4095), 100);
        int whole = f.chain(outer, far);
        due("least of all", f.about(whole, 4), 50);
        due("greatest of all", f.about(whole, 5), 100);
        due("OUTER and INNER are one", f.value(f.chain(outer, outer), 4095), 70);
    }

    private static void gainsAndMirrors() {
        CurveFoundry f = new CurveFoundry();
        int ramp = signedRamp(f);
        Document.says("5 GAIN of a curve: its VALUE times up by down, ROUNDED, and then more.");
        dueAt(f, f.gain(ramp, 1000, 1000, 0), 1999, -1, 0, 1);
        dueAt(f, f.gain(ramp, -1000, 1000, 1), 1999, 2, 1, 0);
        dueAt(f, f.gain(ramp, 0, 1, -4), 1999, -4, -4, -4);
        dueAt(f, f.gain(ramp, 3, 2, 1), 1997, -3, -2, -1, 1, 3, 4, 5);
        due("limited behind more, not ahead of it", f.value(f.gain(ramp, 1000, 1, -1000000), 4000), 1000000);
        due("limited behind more, not ahead of it", f.value(f.gain(ramp, 1000, 1, -1000000), 3500), 500000);
        due("limited behind more, not ahead of it", f.value(f.gain(ramp, 1000, 1, 1000000), 500), -500000);
        Document.says("6 MIRROR of a curve: its VALUE at 4095 - x.");
        int mirror = f.mirror(ramp);
        dueAt(f, mirror, 0, 2000, 2000);
        dueAt(f, mirror, 4093, -1998, -1999, -2000);
        dueAt(f, f.mirror(mirror), 0, -2000, -1999);
    }

    private static void work() {
        Document.says("WORK of a LINE or PIECES is 1, of others 1 and that of the curves that they are of"
            + " (of a CHAIN of both), 500 at most.");
        CurveFoundry f = Workshop.heavy();
        int[] due = {1, 1, 2, 2, 3, 2, 2, 1, 3, 7, 15, 31, 63, 127, 255, 383, 447, 479, 495, 499, 500};
        for (int c = 0; c < due.length; c++) {
            due("WORK of curve " + c, f.about(c, 1), due[c]);
        }
        due("no more than 500", f.mirror(Workshop.WORK_500), -2);
        due("of both: 511", f.chain(Workshop.WORK_255, Workshop.WORK_255), -2);
        due("a curve of WORK 500 tells its VALUES", f.value(Workshop.WORK_500, 0), 4095);
        due("and all of them", f.about(Workshop.WORK_500, 2), -1);
    }

    private static void trends() {
        Document.says("A curve is FLAT if all its VALUES are one");
        CurveFoundry f = new CurveFoundry();
        due("one KNOT", f.about(Workshop.through(f, 9, 3), 2), 2);
        due("many", f.about(Workshop.through(f, 0, -3, 7, -3, 4095, -3), 2), 2);
        Document.says("else it RISES if none is below the one ahead of it, FALLS if none is above it.");
        due("up at 1 alone", f.about(Workshop.through(f, 0, 0, 1, 1), 2), 1);
        due("up at 4095 alone", f.about(Workshop.through(f, 4094, 0, 4095, 1), 2), 1);
        due("down at 1 alone", f.about(Workshop.through(f, 0, 1, 1, 0), 2), -1);
        due("down at 4095 alone", f.about(Workshop.through(f, 4094, 1, 4095, 0), 2), -1);
        due("up, and down at 4095 alone", f.about(Workshop.through(f, 0, 0, 4094, 9, 4095, 8), 2), 0);
        due("down at 1, and up", f.about(Workshop.through(f, 0, 1, 1, 0, 4095, 8), 2), 0);
        due("by so little that it is ROUNDED away", f.about(f.gain(Workshop.through(f, 0, 0, 9, 1), 1, 2, 0), 2), 2);
    }

    private static void dueTurns(CurveFoundry f, int c, int... at) {
        due("how many", f.about(c, 3), at.length);
        for (int k = 0; k < at.length; k++) {
            due("turn(.., " + k + ")", f.turn(c, k), at[k]);
        }
        due("none behind", f.turn(c, at.length), -1);
    }

    private static void turns() {
        Document.says("It TURNS at a COUNT x if its VALUE there is not that at x - 1, and the latest COUNT ahead of x"
            + " at which its VALUE was not that of the COUNT ahead went the other way (up for down, down for up).");
        CurveFoundry f = new CurveFoundry();
        dueTurns(f, Workshop.through(f, 9, 3));
        dueTurns(f, Workshop.through(f, 0, 0, 1, 1));
        dueTurns(f, Workshop.through(f, 0, 1, 1, 0, 4095, -9));
        dueTurns(f, Workshop.through(f, 0, 0, 1, 1, 2, 0), 2);
        dueTurns(f, Workshop.through(f, 0, 0, 1, -1, 2, 0), 2);
        dueTurns(f, Workshop.through(f, 4093, 0, 4094, 1, 4095, 0), 4095);
        dueTurns(f, Workshop.through(f, 0, 0, 1, 1, 4094, 1, 4095, 0), 4095);
        dueTurns(f, Workshop.through(f, 0, 0, 1, 1, 9, 1, 10, 2, 20, 2, 21, 1, 30, 1, 31, 0, 40, 0, 41, 5), 21, 41);
        dueTurns(f, Workshop.through(f, 0, 0, 1, 1, 2, 0, 3, 1, 4, 0, 5, 0, 6, 1), 2, 3, 4, 6);
        manyTurns();
    }

    /** A zigzag through zigzags turns at most COUNTS. */
    private static void manyTurns() {
        CurveFoundry f = new CurveFoundry();
        SlowFoundry slow = new SlowFoundry();
        for (int i = 0; i < 32; i++) {
            f.knot(ZIGZAG[2 * i], ZIGZAG[2 * i + 1]);
            slow.knot(ZIGZAG[2 * i], ZIGZAG[2 * i + 1]);
        }
        due("pieces", f.pieces(), slow.pieces());
        for (int c = 0; c < 3; c++) {
            due("chain", f.chain(0, c), slow.chain(0, c));
            int many = slow.about(c + 1, 3);
            due("how many", f.about(c + 1, 3), many);
            int[] asked = {0, 1, many / 2, many - 2, many - 1};
            for (int k : asked) {
                due("turn(.., " + k + ")", f.turn(c + 1, k), slow.turn(c + 1, k));
            }
            due("none behind", f.turn(c + 1, many), -1);
        }
        Check.holds("some thousands of TURNS", slow.about(2, 3) > 2900);
    }

    private static void dueFed(CurveFoundry f, int p, int[] fed, int[] given) {
        for (int i = 0; i < fed.length; i++) {
            due("feed(" + p + ", " + fed[i] + ") as number " + i, f.feed(p, fed[i]), given[i]);
        }
    }

    private static void probes() {
        CurveFoundry f = new CurveFoundry();
        int ramp = Workshop.through(f, 0, 0, 4095, 4095);
        Document.says("PROBES 0 to 3: a curve (none at first)");
        for (int p = 0; p < 4; p++) {
            due("probed(" + p + ")", f.probed(p), NO_VALUE);
            due("feed(" + p + ")", f.feed(p, 100 + p), 100 + p);
            due("a curve is not there yet", f.probed(p), NO_VALUE);
        }
        Document.says("a FILTER (0 the latest COUNT");
        f.probe(0, ramp, 0, 9);
        dueFed(f, 0, new int[] {5, 0, 4095, 7}, new int[] {5, 0, 4095, 7});
        Document.says("1 the middle one by size of the latest n,"
            + " the lower middle one if there are as many on both sides");
        f.probe(1, ramp, 1, 2);
        dueFed(f, 1, new int[] {9, 3, 4, 4, 0}, new int[] {9, 3, 3, 4, 0});
        f.probe(1, ramp, 1, 9);
        dueFed(f, 1, new int[] {50, 10, 40, 20, 30, 30, 4095, 0, 30, 31, 31}, new int[] {50, 10, 40, 20, 30, 30, 30, 30,
            30, 30, 30});
        f.probe(1, ramp, 1, 8);
        dueFed(f, 1, new int[] {1, 2, 3, 4, 5, 6, 7, 8, 9, 10, 11}, new int[] {1, 1, 2, 2, 3, 3, 4, 4, 5, 6, 7});
        Document.says("2 the sum of the latest n by their number, ROUNDED");
        f.probe(2, ramp, 2, 9);
        dueFed(f, 2, new int[] {4095, 4095, 4095, 4095, 4095, 4095, 4095, 4095, 4095, 4095, 0}, new int[] {4095, 4095,
            4095, 4095, 4095, 4095, 4095, 4095, 4095, 4095, 3640});
        f.probe(2, ramp, 2, 4);
        dueFed(f, 2, new int[] {0, 1, 1, 0, 1, 4, 4}, new int[] {0, 0, 1, 0, 1, 2, 2});
    }

    private static void windows() {
        Document.says("n 1 to 9; 0, 1 at first)");
        CurveFoundry f = new CurveFoundry();
        int ramp = Workshop.through(f, 0, 0, 4095, 4095);
        dueFed(f, 3, new int[] {7, 1000, 2}, new int[] {7, 1000, 2});
        for (int filter = 0; filter < 3; filter++) {
            due("n of 1", f.probe(0, ramp, filter, 1), 1);
            dueFed(f, 0, new int[] {7, 1000, 2}, new int[] {7, 1000, 2});
            due("n of 9", f.probe(0, ramp, filter, 9), 1);
            due("n of 0", f.probe(0, ramp, filter, 0), -2);
            due("n of 10", f.probe(0, ramp, filter, 10), -2);
        }
        Document.says("and the COUNTS that were fed, of which the latest n are looked at, or all if there are fewer.");
        f.probe(0, ramp, 2, 3);
        dueFed(f, 0, new int[] {9, 3, 0, 0, 0, 30}, new int[] {9, 6, 4, 1, 0, 10});
        f.probe(0, ramp, 1, 3);
        dueFed(f, 0, new int[] {9, 3, 5, 1, 1, 30}, new int[] {9, 3, 5, 3, 1, 1});
    }

    private static void tables() {
        Document.says("TABLES 0 to 3, of a curve, with a STEP 16, 64 or 256 (none at first)");
        CurveFoundry f = new CurveFoundry();
        int steep = Workshop.through(f, 0, 1, 4080, -3, 4094, 5, 4095, 9999);
        int[] steps = {16, 64, 256};
        for (int t = 0; t < 4; t++) {
            due("none yet", f.entry(t, 0), NO_VALUE);
            due("none yet", f.lookup(t, 0), NO_VALUE);
            due("none yet", f.off(t), NO_VALUE);
            due("none yet", f.offAt(t), -2);
        }
        due("none yet", f.count(3), 0);
        Document.says("ENTRIES 0 to 4096 by STEP");
        for (int step : steps) {
            int last = 4096 / step;
            due("how many", f.table(3, steep, step), last + 1);
            due("none behind", f.entry(3, last + 1), NO_VALUE);
            due("none ahead", f.entry(3, -1), NO_VALUE);
            due("the first", f.entry(3, 0), 1f * 0.001f);
        }
        Document.says("ENTRY k is the VALUE at COUNT k times STEP (of the last ENTRY at 4095), as a float, times 0.001f.");
        for (int step : steps) {
            f.table(3, steep, step);
            int last = 4096 / step;
            due("the last but one", f.entry(3, last - 1), (float) f.value(steep, 4096 - step) * 0.001f);
            due("the last", f.entry(3, last), 9999f * 0.001f);
        }
        f.table(3, f.gain(steep, 1000, 1, 0), 16);
        due("the greatest", f.entry(3, 256), 1000000f * 0.001f);
        f.table(3, f.gain(steep, -1000, 1, 0), 16);
        due("the least", f.entry(3, 256), -1000000f * 0.001f);
        f.table(1, f.gain(steep, 0, 1, 0), 64);
        due("0 has no sign", f.entry(1, 7), 0.0);
    }

    private static float dueLookup(CurveFoundry f, int c, int step, int x) {
        int k = x / step;
        float here = (float) f.value(c, k * step) * 0.001f;
        float next = (float) f.value(c, Math.min(4095, (k + 1) * step)) * 0.001f;
        float rise = next - here;
        float part = (float) (x - k * step) / (float) step;
        float more = rise * part;
        return here + more;
    }

    private static void lookups() {
        Document.says("LOOKUP at COUNT x, with k x by STEP cut down, in floats: ENTRY k, and (ENTRY k + 1 less ENTRY k)"
            + " times ((x less k times STEP) by STEP).");
        int[] steps = {16, 64, 256};
        for (int step : steps) {
            CurveFoundry f = new CurveFoundry();
            int c = f.gain(Workshop.through(f, 0, 7, 999, -3333, 2001, 9973, 4094, 5, 4095, -8191), 37, 3, 11);
            f.table(0, c, step);
            int[] asked = {0, 1, step - 1, step, step + 1, 2 * step - 1, 2 * step, 2047, 2048, 4095 - step, 4096 - step,
                4097 - step, 4094, 4095};
            for (int x : asked) {
                due("lookup(0, " + x + ") by " + step, f.lookup(0, x), dueLookup(f, c, step, x));
            }
        }
        Document.says("It is OFF by LOOKUP as a double less VALUE times 0.001 (doubles), without sign.");
        CurveFoundry f = new CurveFoundry();
        f.table(0, Workshop.through(f, 0, 1), 16);
        due("a float is OFF by its own making", f.off(0), (double) 0.001f - 1 * 0.001);
        f.table(0, Workshop.through(f, 0, -1), 16);
        due("without sign", f.off(0), (double) 0.001f - 1 * 0.001);
        f.table(0, Workshop.through(f, 0, 0), 16);
        due("not OFF", f.off(0), 0.0);
        int far = f.gain(Workshop.through(f, 127, -1000, 128, 1000, 129, -1000), 1000, 1, 0);
        f.table(0, far, 256);
        due("farthest OFF", f.off(0), 1000000 * 0.001 - (double) (-1000000f * 0.001f));
    }

    private static void banks() {
        Document.says("BANKS 0 to 7: rows of bytes (0), chars (1), shorts (2), ints (3), longs (4), floats (5),"
            + " doubles (6), booleans (7), none at first.");
        CurveFoundry f = new CurveFoundry();
        long wide = 0x123456789ABCDEFFL;
        long[] due = {-1L, 0xDEFFL, (short) 0xDEFF, 0x9ABCDEFF, wide, 0x1234568000000000L, 0x123456789ABCDF00L, 1L};
        due("none at first", f.count(4), 0);
        for (int b = 0; b < 8; b++) {
            due("none at first", f.held(b, 0), -1e12);
            due("bank", f.bank(b, 2), 2);
            Document.dueLong("hold(" + b + ", ..)", f.hold(b, 1, wide), due[b]);
            due("count(4)", f.count(4), b + 1);
        }
        for (int b = 0; b < 8; b++) {
            Document.dueLong("each has its own", f.held(b, 1), due[b]);
            due("and its other place", f.held(b, 0), 0);
        }
        Document.says("What acts on them meet is answered by -1000000000000 less:");
        Document.says("0 there is no row");
        Workshop.refuses(Workshop::standard, "held(6, 0)", -1000000000000.0, g -> g.held(6, 0));
        Workshop.refuses(Workshop::standard, "hold(6, 0, 1)", -1000000000000.0, g -> g.hold(6, 0, 1));
        Document.says("1 no such place");
        Workshop.refuses(Workshop::standard, "held(4, 0)", -1000000000001.0, g -> g.held(4, 0));
        Workshop.refuses(Workshop::standard, "hold(4, 0, 1)", -1000000000001.0, g -> g.hold(4, 0, 1));
        Document.says("2 a size below 0; then nothing is done.");
        for (int b = 0; b < 8; b++) {
            int bank = b;
            Workshop.refuses(Workshop::standard, "bank(" + b + ", -1)", -1000000000002.0, g -> g.bank(bank, -1));
        }
    }

    private static void refusals() {
        Document.says("A call that is refused (-2 where nothing else is told) changes nothing");
        Workshop.refuses(Workshop::standard, "reading(7, ..), which has 24", -2, f -> f.reading(7, 1, 1, 1));
        Workshop.refuses(Workshop::full, "pieces() beyond 60", -2, f -> f.pieces());
        Workshop.refuses(Workshop::knotted, "knot() beyond 32", -2, f -> f.knot(4000, 1));
        Workshop.refuses(Workshop::heavy, "mirror() beyond 500", -2, f -> f.mirror(Workshop.WORK_500));
        Document.says("what is wrong is asked in the order in which it is told.");
        Workshop.refuses(Workshop::full, "line: 60 curves, ahead of one COUNT", -2, f -> f.line(Workshop.ONE_COUNT));
        Workshop.refuses(Workshop::full, "line: 60 curves, ahead of none", -2, f -> f.line(Workshop.NO_READINGS));
        Workshop.refuses(Workshop::standard, "line: one COUNT", -3, f -> f.line(Workshop.ONE_COUNT));
        Workshop.refuses(Workshop::standard, "bank: no BANK, ahead of the size", -2, f -> f.bank(8, -1));
        Workshop.refuses(Workshop::standard, "hold: no BANK, ahead of the place", -2, f -> f.hold(-1, -1, 1));
        Workshop.refuses(Workshop::standard, "hold: no row, ahead of the place", -1e12, f -> f.hold(6, -1, 1));
        Workshop.refuses(Workshop::standard, "held: no row, ahead of the place", -1e12, f -> f.held(6, 99));
        Workshop.refuses(Workshop::standard, "worst: no curve, and no READINGS", -2, f -> f.worst(1, 8));
        Workshop.refuses(Workshop::standard, "turn: no curve, and no k", -2, f -> f.turn(8, -1));
    }

    public static void main(String[] args) throws Exception {
        Document.open("Terms");
        rounding();
        counts();
        values();
        sensors();
        readings();
        curves();
        lines();
        pieces();
        clampsAndDeads();
        chains();
        gainsAndMirrors();
        work();
        trends();
        turns();
        probes();
        windows();
        tables();
        lookups();
        banks();
        refusals();
        Document.close();
        Check.finish();
    }
}

import java.util.ArrayList;
import java.util.List;

/** Objects in a known state, and a look at them that tells whether a refused call has changed something. */
public final class Workshop {
    /** Curves of standard(): one of each SORT, of PIECES two. */
    public static final int RAMP = 0;
    public static final int LINE = 1;
    public static final int CLAMP = 2;
    public static final int DEAD = 3;
    public static final int CHAIN = 4;
    public static final int GAIN = 5;
    public static final int MIRROR = 6;
    public static final int HILL = 7;
    public static final int CURVES = 8;
    /** SENSORS of standard(). */
    public static final int THREE_READINGS = 0;
    public static final int NO_READINGS = 1;
    public static final int ONE_COUNT = 2;
    public static final int FULL_SENSOR = 7;
    /** Curves of heavy(), by their WORK. */
    public static final int WORK_3 = 8;
    public static final int WORK_255 = 14;
    public static final int WORK_495 = 18;
    public static final int WORK_499 = 19;
    public static final int WORK_500 = 20;

    public interface Call {
        double of(CurveFoundry f);
    }

    public interface Maker {
        CurveFoundry make();
    }

    private Workshop() {
    }

    /** A curve of PIECES through count, value, count, value, ..: its number. */
    public static int through(CurveFoundry f, int... told) {
        f.hush();
        for (int i = 0; i < told.length; i += 2) {
            f.knot(told[i], told[i + 1]);
        }
        return f.pieces();
    }

    /** Whole numbers that are not from low to high: the nearest, the farthest, and 0 if a short or a char held it. */
    public static int[] beyond(int low, int high) {
        return new int[] {Integer.MIN_VALUE, Integer.MIN_VALUE + 1, low - 1, high + 1,
            high < 65536 ? 65536 : Integer.MAX_VALUE - 1, Integer.MAX_VALUE};
    }

    public static CurveFoundry standard() {
        CurveFoundry f = new CurveFoundry();
        makeCurves(f);
        makeReadings(f);
        f.knot(10, 5);
        f.knot(20, -7);
        f.knot(4000, 10000);
        makeDevices(f);
        return f;
    }

    private static void makeCurves(CurveFoundry f) {
        f.reading(THREE_READINGS, 10, 5, 2);
        f.reading(THREE_READINGS, 400, -9, 7);
        f.reading(THREE_READINGS, 4000, 600, 20);
        through(f, 0, 0, 4095, 4095);
        f.line(THREE_READINGS);
        f.clamp(RAMP, 100, 3000);
        f.dead(RAMP, 50, 60, -5);
        f.chain(LINE, RAMP);
        f.gain(RAMP, -3, 2, 7);
        f.mirror(LINE);
        through(f, 0, 0, 1000, 500, 2000, 100, 3000, 100);
    }

    private static void makeReadings(CurveFoundry f) {
        f.reading(ONE_COUNT, 77, 1, 1);
        f.reading(ONE_COUNT, 77, 2, 2);
        for (int i = 0; i < 24; i++) {
            f.reading(FULL_SENSOR, 4000 - 150 * i, 10 * i - 100, i % 20 + 1);
        }
    }

    private static void makeDevices(CurveFoundry f) {
        f.probe(0, RAMP, 1, 4);
        f.feed(0, 30);
        f.feed(0, 10);
        f.feed(0, 20);
        f.probe(1, CLAMP, 2, 9);
        f.feed(1, 4000);
        f.feed(1, 1);
        f.feed(2, 9);
        f.probe(3, LINE, 0, 2);
        f.table(0, HILL, 16);
        f.table(2, RAMP, 256);
        for (int b = 0; b < 8; b++) {
            f.bank(b, b == 4 ? 0 : 3);
            f.hold(b, 0, 7);
            f.hold(b, 2, 101);
        }
        f.free(6);
    }

    /** 60 curves. */
    public static CurveFoundry full() {
        CurveFoundry f = standard();
        for (int c = CURVES; c < 60; c++) {
            f.mirror(RAMP);
        }
        return f;
    }

    /** Curves of WORK 3, 7, 15, 31, 63, 127, 255, 383, 447, 479, 495, 499 and 500. */
    public static CurveFoundry heavy() {
        CurveFoundry f = standard();
        f.chain(RAMP, RAMP);
        for (int c = WORK_3; c < WORK_255; c++) {
            f.chain(c, c);
        }
        f.chain(14, 13);
        f.chain(15, 12);
        f.chain(16, 11);
        f.chain(17, 10);
        f.chain(18, 8);
        f.mirror(19);
        return f;
    }

    /** 32 KNOTS told, the last one at 310. */
    public static CurveFoundry knotted() {
        CurveFoundry f = standard();
        f.hush();
        for (int i = 0; i < 32; i++) {
            f.knot(10 * i, i);
        }
        return f;
    }

    /** The call answers so, and the object looks like a twin that was not asked. */
    public static void refuses(Maker maker, String call, double want, Call asked) {
        CurveFoundry f = maker.make();
        Document.due(call, asked.of(f), want);
        List<String> with = look(f);
        List<String> without = look(maker.make());
        for (int i = 0; i < without.size(); i++) {
            Check.holds(Document.place() + call + " changed " + without.get(i) + " to " + with.get(i),
                with.get(i).equals(without.get(i)));
        }
    }

    private static void ask(List<String> seen, String call, double answer) {
        seen.add(call + " = " + answer);
    }

    /** Some 300 calls, so that an object stays below its 512; those that change something come last. */
    private static List<String> look(CurveFoundry f) {
        List<String> seen = new ArrayList<>();
        lookAtReadings(f, seen);
        lookAtCurves(f, seen);
        lookAtDevices(f, seen);
        lookByChanges(f, seen);
        return seen;
    }

    private static void lookAtReadings(CurveFoundry f, List<String> seen) {
        for (int what = 0; what < 5; what++) {
            ask(seen, "count " + what, f.count(what));
        }
        for (int s = 0; s < 8; s++) {
            ask(seen, "readings " + s, f.readings(s));
            ask(seen, "squares " + s, f.squares(s, RAMP));
        }
        for (int i = 0; i < 24; i++) {
            ask(seen, "residual " + i, f.residual(FULL_SENSOR, i, RAMP));
        }
        for (int i = 0; i < 3; i++) {
            ask(seen, "residual " + i, f.residual(THREE_READINGS, i, RAMP));
        }
    }

    private static void lookAtCurves(CurveFoundry f, List<String> seen) {
        for (int c = 0; c < CURVES; c++) {
            ask(seen, "work " + c, f.about(c, 1));
            ask(seen, "value " + c, f.value(c, 0));
            ask(seen, "value " + c, f.value(c, 55));
            ask(seen, "value " + c, f.value(c, 4095));
        }
        ask(seen, "trend", f.about(HILL, 2));
        ask(seen, "turn", f.turn(HILL, 0));
    }

    private static void lookAtDevices(CurveFoundry f, List<String> seen) {
        for (int i = 0; i < 4; i++) {
            ask(seen, "probed " + i, f.probed(i));
            ask(seen, "entry 1 of " + i, f.entry(i, 1));
            ask(seen, "entry 17 of " + i, f.entry(i, 17));
            ask(seen, "lookup " + i, f.lookup(i, 999));
            ask(seen, "off " + i, f.off(i));
            ask(seen, "offAt " + i, f.offAt(i));
        }
        for (int b = 0; b < 8; b++) {
            for (int i = 0; i < 4; i++) {
                ask(seen, "held " + b + " " + i, f.held(b, i));
            }
        }
    }

    private static void lookByChanges(CurveFoundry f, List<String> seen) {
        int[] fed = {4000, 7, 2001};
        for (int p = 0; p < 4; p++) {
            for (int x : fed) {
                ask(seen, "feed " + p, f.feed(p, x));
            }
            ask(seen, "probed " + p, f.probed(p));
        }
        int last = f.count(0);
        ask(seen, "knot at the last one", f.knot(4000, 0));
        ask(seen, "knot behind it", f.knot(4001, 3));
        ask(seen, "pieces", f.pieces());
        int[] at = {0, 10, 15, 20, 310, 4000, 4001};
        for (int x : at) {
            ask(seen, "value of the new curve at " + x, f.value(last, x));
        }
        ask(seen, "hush", f.hush());
        ask(seen, "reading", f.reading(THREE_READINGS, 5, 5, 5));
        ask(seen, "line", f.line(THREE_READINGS));
        for (int b = 0; b < 8; b++) {
            ask(seen, "free " + b, f.free(b));
        }
    }
}

/** Promises 14 to 21, 34 and 35, sentence by sentence: what is asked of curves and READINGS, at their limits. */
public final class AskerEdgesTest {
    private static final int NO_VALUE = -2000000;
    private static final int MIN = Integer.MIN_VALUE;
    private static final int MAX = Integer.MAX_VALUE;

    private AskerEdgesTest() {
    }

    private static void due(String call, double got, double want) {
        Document.due(call, got, want);
    }

    private static void refuses(String call, double want, Workshop.Call asked) {
        Workshop.refuses(Workshop::standard, call, want, asked);
    }

    private static void refusesOnNew(String call, double want, Workshop.Call asked) {
        Workshop.refuses(CurveFoundry::new, call, want, asked);
    }

    private static int[] noCurves() {
        return Workshop.beyond(0, Workshop.CURVES - 1);
    }

    private static void p14() throws Exception {
        Document.open("Promise 14");
        Document.says("The VALUE of curve c at a COUNT.");
        CurveFoundry f = Workshop.standard();
        for (int x = 0; x < 4096; x += 91) {
            due("value(.., " + x + ")", f.value(Workshop.RAMP, x), x);
        }
        int before = f.value(Workshop.GAIN, 4095);
        due("least", f.about(Workshop.GAIN, 4), before);
        due("the same once all are known", f.value(Workshop.GAIN, 4095), before);
        Document.says("-2000000 when there is no such curve or COUNT.");
        for (int c : noCurves()) {
            refuses("curve " + c, NO_VALUE, g -> g.value(c, 0));
        }
        for (int x : Workshop.beyond(0, 4095)) {
            refuses("COUNT " + x, NO_VALUE, g -> g.value(0, x));
            due("COUNT " + x + " once all are known", f.value(Workshop.GAIN, x), NO_VALUE);
        }
        refusesOnNew("no curves at all", NO_VALUE, g -> g.value(0, 0));
        due("curve 60 of 60", Workshop.full().value(60, 0), NO_VALUE);
        due("curve 59 of 60", Workshop.full().value(59, 0), 4095);
        Document.close();
    }

    private static void p15() throws Exception {
        Document.open("Promise 15");
        CurveFoundry f = Workshop.standard();
        Document.says("Of curve c: its SORT (what 0)");
        int[] sorts = {1, 0, 2, 3, 4, 5, 6, 1};
        for (int c = 0; c < sorts.length; c++) {
            due("SORT of " + c, f.about(c, 0), sorts[c]);
        }
        Document.says("its WORK (1)");
        due("the least", f.about(Workshop.RAMP, 1), 1);
        due("the greatest", Workshop.heavy().about(Workshop.WORK_500, 1), 500);
        Document.says("1 if it RISES, -1 if it FALLS, 2 if it is FLAT, else 0 (2)");
        due("RISES", f.about(Workshop.RAMP, 2), 1);
        due("FALLS", f.about(Workshop.GAIN, 2), -1);
        due("FLAT", f.about(f.clamp(Workshop.RAMP, 5000, 6000), 2), 2);
        due("else", f.about(Workshop.HILL, 2), 0);
        due("RISES, though level at its ends", f.about(Workshop.CLAMP, 2), 1);
        Document.says("at how many COUNTS it TURNS (3)");
        due("none", f.about(Workshop.RAMP, 3), 0);
        due("one", f.about(Workshop.HILL, 3), 1);
        due("two", f.about(Workshop.DEAD, 3), 2);
        Document.says("its least VALUE (4)");
        due("at 0", f.about(Workshop.RAMP, 4), 0);
        due("at 4095", f.about(Workshop.GAIN, 4), -6135);
        due("between", f.about(Workshop.DEAD, 4), -5);
        Document.says("its greatest one (5).");
        due("at 0", f.about(Workshop.GAIN, 5), 7);
        due("at 4095", f.about(Workshop.RAMP, 5), 4095);
        due("between", f.about(Workshop.HILL, 5), 500);
        Document.says("-2000000 when there is no such curve or what.");
        for (int what = 0; what <= 5; what++) {
            int asked = what;
            for (int c : noCurves()) {
                refuses("curve " + c, NO_VALUE, g -> g.about(c, asked));
            }
            refusesOnNew("no curves at all", NO_VALUE, g -> g.about(0, asked));
        }
        for (int what : Workshop.beyond(0, 5)) {
            refuses("what " + what, NO_VALUE, g -> g.about(0, what));
        }
        Document.close();
    }

    private static void p16() throws Exception {
        Document.open("Promise 16");
        Document.says("The k-th COUNT, from 0 on, at which curve c TURNS.");
        CurveFoundry f = new CurveFoundry();
        int c = Workshop.through(f, 0, 0, 1, 1, 2, 0, 4094, 0, 4095, 1);
        due("0", f.turn(c, 0), 2);
        due("1", f.turn(c, 1), 4095);
        due("0 again", f.turn(c, 0), 2);
        Document.says("-1 when there is none such");
        due("2 of 2", f.turn(c, 2), -1);
        for (int k : Workshop.beyond(0, 1)) {
            due("k " + k, f.turn(c, k), -1);
            refuses("k " + k, -1, g -> g.turn(Workshop.DEAD, k));
            refuses("k " + k + " of one that has none", -1, g -> g.turn(Workshop.RAMP, k));
        }
        refuses("0 of one that RISES", -1, g -> g.turn(Workshop.RAMP, 0));
        refuses("0 of one that FALLS", -1, g -> g.turn(Workshop.GAIN, 0));
        due("0 of one that is FLAT", f.turn(Workshop.through(f, 0, 5), 0), -1);
        Document.says("-2 when there is no such curve.");
        for (int no : noCurves()) {
            refuses("curve " + no, -2, g -> g.turn(no, 0));
            refuses("curve " + no + ", and no k", -2, g -> g.turn(no, -1));
        }
        refusesOnNew("no curves at all", -2, g -> g.turn(0, 0));
        Document.close();
    }

    private static void inverseOfRising() {
        CurveFoundry f = new CurveFoundry();
        int c = Workshop.through(f, 10, -4, 12, 0, 20, 0, 21, 100, 4094, 100, 4095, 110);
        int[][] due = {{MIN, 0}, {-1000001, 0}, {-5, 0}, {-4, 0}, {-3, 0}, {-2, 11}, {-1, 11}, {0, 12}, {49, 12}, {50, 12},
            {51, 21}, {100, 21}, {105, 21}, {106, 4095}, {110, 4095}, {111, 4095}, {MAX, 4095}};
        for (int[] d : due) {
            due("inverse(.., " + d[0] + ") of one that RISES", f.inverse(c, d[0]), d[1]);
        }
    }

    private static void inverseOfFalling() {
        CurveFoundry f = new CurveFoundry();
        int c = Workshop.through(f, 10, 4, 12, 0, 20, 0, 21, -100, 4094, -100, 4095, -110);
        int[][] due = {{MAX, 0}, {5, 0}, {4, 0}, {3, 0}, {2, 11}, {1, 11}, {0, 12}, {-49, 12}, {-50, 12}, {-51, 21},
            {-100, 21}, {-105, 21}, {-106, 4095}, {-110, 4095}, {-111, 4095}, {MIN, 4095}, {MIN + 1, 4095}};
        for (int[] d : due) {
            due("inverse(.., " + d[0] + ") of one that FALLS", f.inverse(c, d[0]), d[1]);
        }
    }

    private static void p17() throws Exception {
        Document.open("Promise 17");
        Document.says("The COUNT at which curve c, which RISES, FALLS or is FLAT, has the VALUE nearest to v,"
            + " of several the least.");
        inverseOfRising();
        inverseOfFalling();
        CurveFoundry f = new CurveFoundry();
        int flat = Workshop.through(f, 4095, 5);
        int[] asked = {MIN, -1, 4, 5, 6, MAX};
        for (int v : asked) {
            due("inverse(.., " + v + ") of one that is FLAT", f.inverse(flat, v), 0);
        }
        int wide = f.gain(Workshop.through(f, 0, -1000, 1, 1000), 1000, 1, 0);
        due("as near to both ends", f.inverse(wide, 0), 0);
        due("nearer to the upper", f.inverse(wide, 1), 1);
        due("beyond", f.inverse(wide, MAX), 1);
        due("beyond", f.inverse(wide, MIN), 0);
        int down = f.gain(wide, -1, 1, 0);
        due("as near to both ends", f.inverse(down, 0), 0);
        due("beyond", f.inverse(down, MIN), 1);
        Document.says("-1 when it does none of these");
        int[] none = {MIN, -1, 0, 250, 500, MAX};
        for (int v : none) {
            refuses("inverse(.., " + v + ")", -1, g -> g.inverse(Workshop.HILL, v));
        }
        due("but for the last COUNT", f.inverse(Workshop.through(f, 0, 0, 4094, 9, 4095, 8), 3), -1);
        Document.says("-2 when there is no such curve.");
        for (int c : noCurves()) {
            refuses("curve " + c, -2, g -> g.inverse(c, 0));
        }
        refusesOnNew("no curves at all", -2, g -> g.inverse(0, 0));
        Document.close();
    }

    private static void p18() throws Exception {
        Document.open("Promise 18");
        Document.says("REFERENCE of READING i of SENSOR s less the VALUE of curve c at its COUNT.");
        CurveFoundry f = Workshop.standard();
        due("the first of 24", f.residual(7, 0, Workshop.RAMP), -100 - 4000);
        due("the last of 24", f.residual(7, 23, Workshop.RAMP), 130 - 550);
        int low = f.gain(0, 0, 1, -1000000);
        int high = f.gain(0, 0, 1, 1000000);
        f.reading(1, 0, 10000, 1);
        f.reading(1, 4095, -10000, 1);
        due("the greatest", f.residual(1, 0, low), 1010000);
        due("the least", f.residual(1, 1, high), -1010000);
        Document.says("-2000000 when there is no such SENSOR, READING or curve.");
        for (int s : Workshop.beyond(0, 7)) {
            refuses("SENSOR " + s, NO_VALUE, g -> g.residual(s, 0, 0));
        }
        for (int i : Workshop.beyond(0, 23)) {
            refuses("READING " + i, NO_VALUE, g -> g.residual(7, i, 0));
        }
        refuses("READING 3 of 3", NO_VALUE, g -> g.residual(Workshop.THREE_READINGS, 3, 0));
        refuses("READING 0 of none", NO_VALUE, g -> g.residual(Workshop.NO_READINGS, 0, 0));
        for (int c : noCurves()) {
            refuses("curve " + c, NO_VALUE, g -> g.residual(7, 0, c));
        }
        refusesOnNew("nothing at all", NO_VALUE, g -> g.residual(0, 0, 0));
        f.drop(7, 23);
        due("a READING that went", f.residual(7, 23, 0), NO_VALUE);
        Document.close();
    }

    private static void p19() throws Exception {
        Document.open("Promise 19");
        Document.says("The READING of SENSOR s with the greatest residual without sign, of several the least number.");
        CurveFoundry f = new CurveFoundry();
        int none = Workshop.through(f, 0, 0);
        f.reading(0, 1, 0, 1);
        due("the one that there is", f.worst(0, none), 0);
        f.reading(0, 1, 0, 20);
        due("two of 0", f.worst(0, none), 0);
        f.reading(0, 1, -1, 1);
        due("below 0", f.worst(0, none), 2);
        f.reading(0, 1, 1, 20);
        due("as far, the other way", f.worst(0, none), 2);
        for (int i = 4; i < 24; i++) {
            f.reading(0, 1, i == 23 ? -2 : 1, 1);
        }
        due("the last of 24", f.worst(0, none), 23);
        due("of the farthest", f.worst(0, f.gain(none, 0, 1, 1000000)), 23);
        due("and of the other side's", f.worst(0, f.gain(none, 0, 1, -1000000)), 3);
        Document.says("-1 when it has none");
        refuses("none", -1, g -> g.worst(Workshop.NO_READINGS, 0));
        f.reading(1, 1, 1, 1);
        f.drop(1, 0);
        due("none any more", f.worst(1, none), -1);
        Document.says("-2 when there is no such SENSOR or curve.");
        for (int s : Workshop.beyond(0, 7)) {
            refuses("SENSOR " + s, -2, g -> g.worst(s, 0));
        }
        for (int c : noCurves()) {
            refuses("curve " + c, -2, g -> g.worst(7, c));
            refuses("curve " + c + ", no READINGS", -2, g -> g.worst(Workshop.NO_READINGS, c));
        }
        refusesOnNew("no curves at all", -2, g -> g.worst(0, 0));
        Document.close();
    }

    private static void p20() throws Exception {
        Document.open("Promise 20");
        Document.says("The sum over the READINGS of SENSOR s of WEIGHT times the square of the residual");
        CurveFoundry f = Workshop.standard();
        due("of none", f.squares(Workshop.NO_READINGS, 0), 0);
        int low = f.gain(0, 0, 1, -1000000);
        int high = f.gain(0, 0, 1, 1000000);
        for (int i = 0; i < 24; i++) {
            f.reading(3, i, 10000, 20);
            f.reading(4, i, -10000, 20);
        }
        Document.dueLong("the greatest", f.squares(3, low), 480L * 1010000 * 1010000);
        Document.dueLong("the greatest, below 0", f.squares(4, high), 480L * 1010000 * 1010000);
        f.reading(5, 0, 0, 20);
        Document.dueLong("one at a WEIGHT of 20", f.squares(5, low), 20L * 1000000 * 1000000);
        f.reading(6, 0, 0, 20);
        due("no residual", f.squares(6, Workshop.RAMP), 0);
        Document.says("-2 when there is no such SENSOR or curve.");
        for (int s : Workshop.beyond(0, 7)) {
            refuses("SENSOR " + s, -2, g -> g.squares(s, 0));
        }
        for (int c : noCurves()) {
            refuses("curve " + c, -2, g -> g.squares(7, c));
            refuses("curve " + c + ", no READINGS", -2, g -> g.squares(Workshop.NO_READINGS, c));
        }
        refusesOnNew("no curves at all", -2, g -> g.squares(0, 0));
        Document.close();
    }

    private static void p21() throws Exception {
        Document.open("Promise 21");
        Document.says("The sum of WEIGHT times residual by the sum of the WEIGHTS, ROUNDED.");
        CurveFoundry f = Workshop.standard();
        int low = f.gain(0, 0, 1, -1000000);
        int high = f.gain(0, 0, 1, 1000000);
        for (int i = 0; i < 24; i++) {
            f.reading(3, i, 10000, 20);
            f.reading(4, i, -10000, 20);
        }
        due("the greatest", f.drift(3, low), 1010000);
        due("the least", f.drift(4, high), -1010000);
        int none = f.gain(0, 0, 1, 0);
        f.reading(5, 0, 1, 1);
        f.reading(5, 0, 0, 1);
        due("a half, to the even one", f.drift(5, none), 0);
        f.reading(5, 0, 4, 2);
        due("9 by 4", f.drift(5, none), 2);
        f.reading(6, 0, -3, 1);
        f.reading(6, 0, 0, 1);
        due("a half below 0, to the even one", f.drift(6, none), -2);
        Document.says("-2000000 when there is no such SENSOR or curve");
        for (int s : Workshop.beyond(0, 7)) {
            refuses("SENSOR " + s, NO_VALUE, g -> g.drift(s, 0));
        }
        for (int c : noCurves()) {
            refuses("curve " + c, NO_VALUE, g -> g.drift(7, c));
        }
        refusesOnNew("no curves at all", NO_VALUE, g -> g.drift(0, 0));
        Document.says("or it has no READINGS.");
        refuses("none", NO_VALUE, g -> g.drift(Workshop.NO_READINGS, 0));
        f.drop(5, 0);
        f.drop(5, 0);
        f.drop(5, 0);
        due("none any more", f.drift(5, none), NO_VALUE);
        Document.close();
    }

    private static void p34() throws Exception {
        Document.open("Promise 34");
        Document.says("How many READINGS SENSOR s has");
        CurveFoundry f = Workshop.standard();
        int[] due = {3, 0, 2, 0, 0, 0, 0, 24};
        for (int s = 0; s < 8; s++) {
            due("readings(" + s + ")", f.readings(s), due[s]);
        }
        f.drop(7, 5);
        due("one less", f.readings(7), 23);
        Document.says("-2 when there is none such.");
        for (int s : Workshop.beyond(0, 7)) {
            refuses("SENSOR " + s, -2, g -> g.readings(s));
        }
        Document.close();
    }

    private static void p35() throws Exception {
        Document.open("Promise 35");
        CurveFoundry f = Workshop.standard();
        Document.says("How many curves there are (what 0)");
        due("curves", f.count(0), 8);
        due("all that there may be", Workshop.full().count(0), 60);
        due("none", new CurveFoundry().count(0), 0);
        Document.says("KNOTS that are told (1)");
        due("KNOTS", f.count(1), 3);
        due("all that there may be", Workshop.knotted().count(1), 32);
        Document.says("SENSORS with READINGS (2)");
        due("SENSORS", f.count(2), 3);
        f.drop(2, 0);
        due("one is left to it", f.count(2), 3);
        f.drop(2, 0);
        due("none is left to it", f.count(2), 2);
        for (int s = 1; s < 7; s++) {
            f.reading(s, 1, 1, 1);
        }
        due("all", f.count(2), 8);
        Document.says("TABLES (3)");
        due("TABLES", f.count(3), 2);
        f.table(2, 0, 16);
        due("one of them anew", f.count(3), 2);
        f.table(1, 0, 16);
        f.table(3, 0, 16);
        due("all", f.count(3), 4);
        Document.says("BANKS with a row (4).");
        due("BANKS, one of them with a row of 0 places", f.count(4), 7);
        f.bank(6, 0);
        due("all", f.count(4), 8);
        for (int b = 0; b < 8; b++) {
            f.free(b);
            due("one less", f.count(4), 7 - b);
        }
        Document.says("-2 for another what.");
        for (int what : Workshop.beyond(0, 4)) {
            refuses("what " + what, -2, g -> g.count(what));
        }
        Document.close();
    }

    public static void main(String[] args) throws Exception {
        p14();
        p15();
        p16();
        p17();
        p18();
        p19();
        p20();
        p21();
        p34();
        p35();
        Check.finish();
    }
}

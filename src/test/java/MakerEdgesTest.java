/** Promises 1 to 13, sentence by sentence: READINGS, KNOTS and the making of curves at their limits. */
public final class MakerEdgesTest {
    private static final int NO_VALUE = -2000000;
    private static final int MIN = Integer.MIN_VALUE;
    private static final int MAX = Integer.MAX_VALUE;

    private MakerEdgesTest() {
    }

    private static void due(String call, double got, double want) {
        Document.due(call, got, want);
    }

    private static void refuses(String call, Workshop.Call asked) {
        Workshop.refuses(Workshop::standard, call, -2, asked);
    }

    private static void p1() throws Exception {
        Document.open("Promise 1");
        CurveFoundry f = new CurveFoundry();
        Document.says("No READINGS");
        for (int s = 0; s < 8; s++) {
            due("readings(" + s + ")", f.readings(s), 0);
            due("drop(" + s + ", 0)", f.drop(s, 0), -2);
            due("line(" + s + ")", f.line(s), -3);
        }
        due("count(2)", f.count(2), 0);
        Document.says("curves");
        due("count(0)", f.count(0), 0);
        due("value(0, 0)", f.value(0, 0), NO_VALUE);
        due("KNOTS are none either", f.count(1), 0);
        due("pieces()", f.pieces(), -2);
        due("hush()", f.hush(), 0);
        Document.says("TABLES");
        due("count(3)", f.count(3), 0);
        due("off(0)", f.off(0), NO_VALUE);
        Document.says("rows");
        due("count(4)", f.count(4), 0);
        for (int b = 0; b < 8; b++) {
            due("free(" + b + ")", f.free(b), 0);
        }
        Document.says("PROBES as told.");
        for (int p = 0; p < 4; p++) {
            due("no curve", f.probed(p), NO_VALUE);
            due("the latest COUNT", f.feed(p, 40), 40);
            due("the latest COUNT", f.feed(p, 3), 3);
            due("no curve", f.probed(p), NO_VALUE);
        }
        Document.close();
    }

    private static void p2() throws Exception {
        Document.open("Promise 2");
        Document.says("SENSOR s gets a READING: how many it has.");
        CurveFoundry f = new CurveFoundry();
        for (int i = 1; i <= 24; i++) {
            due("reading number " + i, f.reading(0, 5, 5, 5), i);
        }
        due("of another SENSOR", f.reading(7, 5, 5, 5), 1);
        Document.says("-2 when there is no such SENSOR");
        for (int s : Workshop.beyond(0, 7)) {
            refuses("SENSOR " + s, g -> g.reading(s, 1, 1, 1));
        }
        Document.says("the COUNT, REFERENCE or WEIGHT is not as told");
        for (int x : Workshop.beyond(0, 4095)) {
            refuses("COUNT " + x, g -> g.reading(0, x, 1, 1));
        }
        for (int r : Workshop.beyond(-10000, 10000)) {
            refuses("REFERENCE " + r, g -> g.reading(0, 1, r, 1));
        }
        for (int w : Workshop.beyond(1, 20)) {
            refuses("WEIGHT " + w, g -> g.reading(0, 1, 1, w));
        }
        due("the least of all", f.reading(1, 0, -10000, 1), 1);
        due("the greatest of all", f.reading(1, 4095, 10000, 20), 2);
        Document.says("or it has 24");
        refuses("READING 25", g -> g.reading(Workshop.FULL_SENSOR, 1, 1, 1));
        due("READING 25", f.reading(0, 5, 5, 5), -2);
        due("still 24", f.readings(0), 24);
        Document.close();
    }

    private static void p3() throws Exception {
        Document.open("Promise 3");
        Document.says("READING i of SENSOR s goes; those behind it get a number 1 less: how many are left.");
        for (int gone = 0; gone < 24; gone++) {
            CurveFoundry f = Workshop.standard();
            due("drop(7, " + gone + ")", f.drop(Workshop.FULL_SENSOR, gone), 23);
            CurveFoundry whole = Workshop.standard();
            for (int i = 0; i < 23; i++) {
                int was = i < gone ? i : i + 1;
                due("READING " + i, f.residual(7, i, 0), whole.residual(7, was, 0));
            }
            due("none behind", f.residual(7, 23, 0), NO_VALUE);
            long by = whole.residual(7, gone, 0);
            Document.dueLong("its WEIGHT goes with it", f.squares(7, 0),
                whole.squares(7, 0) - (gone % 20 + 1) * by * by);
        }
        CurveFoundry f = Workshop.standard();
        for (int left = 23; left >= 0; left--) {
            due("drop of the first", f.drop(7, 0), left);
        }
        due("a new one gets number 0", f.reading(7, 3, 9, 1), 1);
        due("number 0", f.residual(7, 0, Workshop.RAMP), 6);
        Document.says("-2 when there is no such SENSOR or READING.");
        for (int s : Workshop.beyond(0, 7)) {
            refuses("SENSOR " + s, g -> g.drop(s, 0));
        }
        for (int i : Workshop.beyond(0, 23)) {
            refuses("READING " + i, g -> g.drop(Workshop.FULL_SENSOR, i));
        }
        refuses("READING 3 of 3", g -> g.drop(Workshop.THREE_READINGS, 3));
        refuses("READING 0 of none", g -> g.drop(Workshop.NO_READINGS, 0));
        Document.close();
    }

    private static void p4() throws Exception {
        Document.open("Promise 4");
        Document.says("A new LINE of SENSOR s: its number.");
        CurveFoundry f = Workshop.standard();
        due("line", f.line(Workshop.FULL_SENSOR), Workshop.CURVES);
        due("its SORT", f.about(Workshop.CURVES, 0), 0);
        due("line", f.line(Workshop.FULL_SENSOR), Workshop.CURVES + 1);
        due("READINGS stay", f.readings(Workshop.FULL_SENSOR), 24);
        Document.says("-2 when there is no such SENSOR");
        for (int s : Workshop.beyond(0, 7)) {
            refuses("SENSOR " + s, g -> g.line(s));
        }
        Document.says("or there are 60 curves");
        Workshop.refuses(Workshop::full, "the 61st", -2, g -> g.line(Workshop.THREE_READINGS));
        for (int c = Workshop.CURVES + 2; c < 60; c++) {
            due("line", f.line(Workshop.FULL_SENSOR), c);
        }
        due("the 61st", f.line(Workshop.FULL_SENSOR), -2);
        Document.says("-3 when its READINGS don't have two different COUNTS.");
        Workshop.refuses(Workshop::standard, "none", -3, g -> g.line(Workshop.NO_READINGS));
        Workshop.refuses(Workshop::standard, "two at one COUNT", -3, g -> g.line(Workshop.ONE_COUNT));
        oneCount();
        Document.close();
    }

    private static void oneCount() {
        CurveFoundry f = new CurveFoundry();
        for (int i = 0; i < 23; i++) {
            f.reading(0, 4095, i, 20);
        }
        due("23 at one COUNT", f.line(0), -3);
        f.reading(0, 4094, 5, 1);
        due("and the last beside it", f.line(0), 0);
        due("the one beside it", f.value(0, 4094), 5);
        due("the mean of the others", f.value(0, 4095), 11);
        f.drop(0, 23);
        due("23 at one COUNT again", f.line(0), -3);
        f.drop(0, 0);
        f.reading(1, 0, 5, 1);
        due("one", f.line(1), -3);
        f.reading(1, 1, 5, 1);
        due("two", f.line(1), 1);
    }

    private static void p5() throws Exception {
        Document.open("Promise 5");
        Document.says("A KNOT more to the KNOTS that are told (32 at most): how many they are.");
        CurveFoundry f = new CurveFoundry();
        for (int i = 0; i < 32; i++) {
            due("knot number " + i, f.knot(i, i % 2 == 0 ? -10000 : 10000), i + 1);
        }
        Document.says("-2 when the count is no COUNT");
        for (int x : Workshop.beyond(0, 4095)) {
            refuses("knot at " + x, g -> g.knot(x, 1));
            Workshop.refuses(CurveFoundry::new, "first knot at " + x, -2, g -> g.knot(x, 1));
        }
        Document.says("or not above that of the latest one");
        refuses("at the latest one", g -> g.knot(4000, 1));
        refuses("just ahead of it", g -> g.knot(3999, 1));
        refuses("at the first one", g -> g.knot(10, 1));
        refuses("at 0", g -> g.knot(0, 1));
        due("just behind it", Workshop.standard().knot(4001, 1), 4);
        due("the first one at 0", new CurveFoundry().knot(0, 1), 1);
        Document.says("the value is not -10000 to 10000");
        for (int v : Workshop.beyond(-10000, 10000)) {
            refuses("value " + v, g -> g.knot(4001, v));
        }
        due("the least", Workshop.standard().knot(4001, -10000), 4);
        due("the greatest", Workshop.standard().knot(4001, 10000), 4);
        Document.says("or there are 32.");
        Workshop.refuses(Workshop::knotted, "the 33rd", -2, g -> g.knot(4095, 1));
        due("the 33rd", f.knot(32, 1), -2);
        due("still 32", f.count(1), 32);
        due("through all of them", f.pieces(), 0);
        due("the last one", f.value(0, 31), 10000);
        due("and behind it", f.value(0, 4095), 10000);
        Document.close();
    }

    private static void p6() throws Exception {
        Document.open("Promise 6");
        Document.says("No KNOTS are told: how many were.");
        due("none", new CurveFoundry().hush(), 0);
        CurveFoundry f = Workshop.knotted();
        due("32", f.hush(), 32);
        due("none now", f.count(1), 0);
        due("none", f.hush(), 0);
        due("pieces of none", f.pieces(), -2);
        due("any COUNT may come", f.knot(0, 9), 1);
        due("one", f.hush(), 1);
        due("curves keep theirs", f.value(Workshop.HILL, 1000), 500);
        Document.close();
    }

    private static void p7() throws Exception {
        Document.open("Promise 7");
        Document.says("A new curve of PIECES through the KNOTS that are told, which are told no more then: its number.");
        CurveFoundry f = Workshop.standard();
        due("pieces", f.pieces(), Workshop.CURVES);
        due("told no more", f.count(1), 0);
        due("its SORT", f.about(Workshop.CURVES, 0), 1);
        due("the next one's KNOTS", f.knot(0, 77), 1);
        due("are not this one's", f.value(Workshop.CURVES, 0), 5);
        due("nor those of a gather", f.gather(Workshop.FULL_SENSOR), 24);
        due("this one's", f.value(Workshop.CURVES, 20), -7);
        Document.says("-2 when there are none");
        Workshop.refuses(CurveFoundry::new, "none yet", -2, g -> g.pieces());
        due("hush", f.hush(), 24);
        due("none any more", f.pieces(), -2);
        due("no curve was made", f.count(0), Workshop.CURVES + 1);
        Document.says("or 60 curves.");
        Workshop.refuses(Workshop::full, "the 61st", -2, g -> g.pieces());
        for (int c = Workshop.CURVES + 1; c < 60; c++) {
            due("knot", f.knot(1, 1), 1);
            due("pieces", f.pieces(), c);
        }
        due("knot", f.knot(1, 1), 1);
        due("the 61st", f.pieces(), -2);
        due("its KNOT is still told", f.hush(), 1);
        Document.close();
    }

    private static void p8() throws Exception {
        Document.open("Promise 8");
        Document.says("The KNOTS of SENSOR s become those that are told, in place of others: for each COUNT of its"
            + " READINGS, by rising ones, the sum of WEIGHT times REFERENCE of those with it, by that of their WEIGHTS,"
            + " ROUNDED: how many.");
        CurveFoundry f = Workshop.knotted();
        due("no READINGS, no KNOTS", f.gather(Workshop.NO_READINGS), 0);
        due("in place of others", f.count(1), 0);
        due("two at one COUNT are one KNOT", f.gather(Workshop.ONE_COUNT), 1);
        due("pieces", f.pieces(), Workshop.CURVES);
        due("(1 + 4) / 3", f.value(Workshop.CURVES, 77), 2);
        due("24 falling COUNTS", f.gather(Workshop.FULL_SENSOR), 24);
        due("eight more", moreKnots(f, 4001, 8), 32);
        due("and no more", f.knot(4095, 1), -2);
        due("pieces", f.pieces(), Workshop.CURVES + 1);
        for (int i = 0; i < 24; i++) {
            due("KNOT of READING " + i, f.value(Workshop.CURVES + 1, 4000 - 150 * i), 10 * i - 100);
        }
        gatherEnds();
        gatherUnsorted();
        Document.says("-2 when there is no such SENSOR.");
        for (int s : Workshop.beyond(0, 7)) {
            refuses("SENSOR " + s, g -> g.gather(s));
        }
        Document.close();
    }

    private static int moreKnots(CurveFoundry f, int from, int many) {
        int told = 0;
        for (int i = 0; i < many; i++) {
            told = f.knot(from + i, 1);
        }
        return told;
    }

    private static void gatherEnds() {
        CurveFoundry f = new CurveFoundry();
        for (int i = 0; i < 12; i++) {
            f.reading(0, 4095, 10000, 20);
            f.reading(0, 0, -10000, 20);
        }
        due("both ends", f.gather(0), 2);
        due("none behind 4095", f.knot(4095, 1), -2);
        due("pieces", f.pieces(), 0);
        due("the least", f.value(0, 0), -10000);
        due("the greatest", f.value(0, 4095), 10000);
        f.reading(1, 9, 10000, 20);
        f.reading(1, 9, 9999, 20);
        due("gather", f.gather(1), 1);
        due("half to the even one", f.value(f.pieces(), 9), 10000);
    }

    /** Rising, falling and mixed COUNTS, each twice, with others between them. */
    private static void gatherUnsorted() {
        int[][] orders = {{0, 1, 2, 3, 4, 5}, {5, 4, 3, 2, 1, 0}, {3, 0, 5, 1, 4, 2}, {2, 4, 1, 5, 0, 3}};
        for (int[] order : orders) {
            CurveFoundry f = new CurveFoundry();
            for (int i = 0; i < 12; i++) {
                int k = order[i % 6];
                f.reading(0, 819 * k, i < 6 ? 10 * k : 10 * k + 4, i < 6 ? 1 : 3);
            }
            due("six COUNTS", f.gather(0), 6);
            due("pieces", f.pieces(), 0);
            for (int k = 0; k < 6; k++) {
                due("KNOT at " + 819 * k, f.value(0, 819 * k), 10 * k + 3);
            }
            due("RISES as they do", f.about(0, 2), 1);
        }
    }

    private static void p9() throws Exception {
        Document.open("Promise 9");
        Document.says("A new CLAMP of curve c: its number.");
        due("clamp", Workshop.standard().clamp(7, 0, 1), Workshop.CURVES);
        Document.says("-2 when there is no such curve");
        for (int c : Workshop.beyond(0, Workshop.CURVES - 1)) {
            refuses("curve " + c, g -> g.clamp(c, 0, 1));
        }
        refuses("curve 59, not made yet", g -> g.clamp(59, 0, 1));
        Document.says("low is above high");
        refuses("1, 0", g -> g.clamp(0, 1, 0));
        refuses("1000000, -1000000", g -> g.clamp(0, 1000000, -1000000));
        refuses("MAX, MIN", g -> g.clamp(0, MAX, MIN));
        due("just as high", Workshop.standard().clamp(0, 5, 5), Workshop.CURVES);
        Document.says("one of them is no VALUE");
        for (int v : Workshop.beyond(-1000000, 1000000)) {
            refuses("low " + v, g -> g.clamp(0, v, 1000000));
            refuses("high " + v, g -> g.clamp(0, -1000000, v));
            refuses("both " + v, g -> g.clamp(0, v, v));
        }
        due("least to greatest", Workshop.standard().clamp(0, -1000000, 1000000), Workshop.CURVES);
        Document.says("its WORK would be above 500");
        Workshop.refuses(Workshop::heavy, "501", -2, g -> g.clamp(Workshop.WORK_500, 0, 1));
        due("500", Workshop.heavy().clamp(Workshop.WORK_499, 0, 1), Workshop.WORK_500 + 1);
        Document.says("or there are 60 curves.");
        Workshop.refuses(Workshop::full, "the 61st", -2, g -> g.clamp(0, 0, 1));
        Document.close();
    }

    private static void p10() throws Exception {
        Document.open("Promise 10");
        Document.says("A new DEAD of curve c: its number.");
        due("dead", Workshop.standard().dead(7, 0, 1, 2), Workshop.CURVES);
        Document.says("-2 when there is no such curve");
        for (int c : Workshop.beyond(0, Workshop.CURVES - 1)) {
            refuses("curve " + c, g -> g.dead(c, 0, 1, 0));
        }
        Document.says("first is above last");
        refuses("1, 0", g -> g.dead(0, 1, 0, 0));
        refuses("1000000, -1000000", g -> g.dead(0, 1000000, -1000000, 0));
        refuses("MAX, MIN", g -> g.dead(0, MAX, MIN, 0));
        due("just as high", Workshop.standard().dead(0, 5, 5, 0), Workshop.CURVES);
        Document.says("one of these or rest is no VALUE");
        for (int v : Workshop.beyond(-1000000, 1000000)) {
            refuses("first " + v, g -> g.dead(0, v, 1000000, 0));
            refuses("last " + v, g -> g.dead(0, -1000000, v, 0));
            refuses("both " + v, g -> g.dead(0, v, v, 0));
            refuses("rest " + v, g -> g.dead(0, 0, 1, v));
        }
        due("least to greatest", Workshop.standard().dead(0, -1000000, 1000000, -1000000), Workshop.CURVES);
        due("the greatest rest", Workshop.standard().dead(0, 0, 0, 1000000), Workshop.CURVES);
        Document.says("its WORK would be above 500");
        Workshop.refuses(Workshop::heavy, "501", -2, g -> g.dead(Workshop.WORK_500, 0, 1, 0));
        due("500", Workshop.heavy().dead(Workshop.WORK_499, 0, 1, 0), Workshop.WORK_500 + 1);
        Document.says("or there are 60 curves.");
        Workshop.refuses(Workshop::full, "the 61st", -2, g -> g.dead(0, 0, 1, 0));
        Document.close();
    }

    private static void p11() throws Exception {
        Document.open("Promise 11");
        Document.says("A new CHAIN: its number.");
        due("chain", Workshop.standard().chain(7, 0), Workshop.CURVES);
        Document.says("-2 when one of them is no curve");
        for (int c : Workshop.beyond(0, Workshop.CURVES - 1)) {
            refuses("outer " + c, g -> g.chain(c, 0));
            refuses("inner " + c, g -> g.chain(0, c));
            refuses("both " + c, g -> g.chain(c, c));
        }
        Document.says("its WORK would be above 500");
        Workshop.refuses(Workshop::heavy, "502", -2, g -> g.chain(Workshop.WORK_500, 0));
        Workshop.refuses(Workshop::heavy, "502", -2, g -> g.chain(0, Workshop.WORK_500));
        Workshop.refuses(Workshop::heavy, "501", -2, g -> g.chain(Workshop.WORK_499, 0));
        Workshop.refuses(Workshop::heavy, "501", -2, g -> g.chain(0, Workshop.WORK_499));
        Workshop.refuses(Workshop::heavy, "511", -2, g -> g.chain(Workshop.WORK_255, Workshop.WORK_255));
        Workshop.refuses(Workshop::heavy, "1001", -2, g -> g.chain(Workshop.WORK_500, Workshop.WORK_500));
        CurveFoundry f = Workshop.heavy();
        int four = f.mirror(Workshop.WORK_3);
        int five = f.mirror(four);
        due("501", f.chain(Workshop.WORK_495, five), -2);
        due("501", f.chain(five, Workshop.WORK_495), -2);
        due("500", f.about(f.chain(Workshop.WORK_495, four), 1), 500);
        due("500", f.about(f.chain(four, Workshop.WORK_495), 1), 500);
        Document.says("or there are 60 curves.");
        Workshop.refuses(Workshop::full, "the 61st", -2, g -> g.chain(0, 0));
        Document.close();
    }

    private static void p12() throws Exception {
        Document.open("Promise 12");
        Document.says("A new GAIN of curve c: its number.");
        due("gain", Workshop.standard().gain(7, 1, 1, 0), Workshop.CURVES);
        Document.says("-2 when there is no such curve");
        for (int c : Workshop.beyond(0, Workshop.CURVES - 1)) {
            refuses("curve " + c, g -> g.gain(c, 1, 1, 0));
        }
        Document.says("up is not -1000 to 1000");
        for (int up : Workshop.beyond(-1000, 1000)) {
            refuses("up " + up, g -> g.gain(0, up, 1, 0));
        }
        Document.says("down not 1 to 1000");
        for (int down : Workshop.beyond(1, 1000)) {
            refuses("down " + down, g -> g.gain(0, 1, down, 0));
        }
        refuses("down -1", g -> g.gain(0, 1, -1, 0));
        refuses("down -1000", g -> g.gain(0, 1, -1000, 0));
        Document.says("more is no VALUE");
        for (int more : Workshop.beyond(-1000000, 1000000)) {
            refuses("more " + more, g -> g.gain(0, 1, 1, more));
        }
        due("the least of each", Workshop.standard().gain(0, -1000, 1, -1000000), Workshop.CURVES);
        due("the greatest of each", Workshop.standard().gain(0, 1000, 1000, 1000000), Workshop.CURVES);
        due("no up at all", Workshop.standard().gain(0, 0, 1, 0), Workshop.CURVES);
        Document.says("its WORK would be above 500");
        Workshop.refuses(Workshop::heavy, "501", -2, g -> g.gain(Workshop.WORK_500, 1, 1, 0));
        due("500", Workshop.heavy().gain(Workshop.WORK_499, 1, 1, 0), Workshop.WORK_500 + 1);
        Document.says("or there are 60 curves.");
        Workshop.refuses(Workshop::full, "the 61st", -2, g -> g.gain(0, 1, 1, 0));
        Document.close();
    }

    private static void p13() throws Exception {
        Document.open("Promise 13");
        Document.says("A new MIRROR of curve c: its number.");
        due("mirror", Workshop.standard().mirror(7), Workshop.CURVES);
        Document.says("-2 when there is no such curve");
        for (int c : Workshop.beyond(0, Workshop.CURVES - 1)) {
            refuses("curve " + c, g -> g.mirror(c));
        }
        Document.says("its WORK would be above 500");
        Workshop.refuses(Workshop::heavy, "501", -2, g -> g.mirror(Workshop.WORK_500));
        due("500", Workshop.heavy().mirror(Workshop.WORK_499), Workshop.WORK_500 + 1);
        Document.says("or there are 60 curves.");
        Workshop.refuses(Workshop::full, "the 61st", -2, g -> g.mirror(0));
        due("the 60th is there", Workshop.full().about(59, 0), 6);
        Document.close();
    }

    public static void main(String[] args) throws Exception {
        p1();
        p2();
        p3();
        p4();
        p5();
        p6();
        p7();
        p8();
        p9();
        p10();
        p11();
        p12();
        p13();
        Check.finish();
    }
}

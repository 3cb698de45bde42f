/** Counts answers that are not as due; a test ends with finish(). */
public final class Check {
    private static int wrong = 0;
    private static int asked = 0;

    private Check() {
    }

    public static void due(String call, long got, long want) {
        asked++;
        if (got != want) {
            wrong++;
            System.out.println(call + " answered " + got + ", due is " + want);
        }
    }

    public static void dueExactly(String call, double got, double want) {
        asked++;
        if (Double.doubleToLongBits(got) != Double.doubleToLongBits(want)) {
            wrong++;
            System.out.println(call + " answered " + got + ", due is " + want);
        }
    }

    public static void holds(String what, boolean it) {
        asked++;
        if (!it) {
            wrong++;
            System.out.println("does not hold: " + what);
        }
    }

    public static int wrongs() {
        return wrong;
    }

    public static void finish() {
        System.out.println(wrong == 0 ? "all " + asked + " answers are as due" : wrong + " of " + asked + " answers are not as due");
        if (wrong != 0) {
            System.exit(1);
        }
    }
}

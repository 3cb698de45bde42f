import com.sun.management.ThreadMXBean;
import java.lang.management.ManagementFactory;

/** The dearest runs: the deepest and heaviest curves, and the room that a run's objects take. */
public final class LimitsTest {
    private static final long ROOM = 7300000;

    private LimitsTest() {
    }

    private static int zigzag(CurveFoundry f) {
        for (int i = 0; i < 32; i++) {
            f.knot(i, i % 2);
        }
        return f.pieces();
    }

    /** 59 curves round one another, asked for a VALUE while no row of theirs is made yet, and for the whole. */
    private static void deepest(int asked) {
        CurveFoundry f = new CurveFoundry();
        zigzag(f);
        for (int i = 1; i < 60; i++) {
            Check.due("mirror", f.mirror(i - 1), i);
        }
        Check.due("61st curve", f.mirror(59), -2);
        if (asked == 0) {
            Check.due("value of the deepest", f.value(59, 4094), 1);
        }
        Check.due("turns of the deepest", f.about(59, 3), 30);
        Check.due("turn of the deepest", f.turn(59, 0), 4066);
        Check.due("value of the deepest", f.value(59, 4094), 1);
        Check.due("work of the deepest", f.about(59, 1), 60);
    }

    /** CHAINS of CHAINS, to a WORK of 255 and then beside it to 500, asked in all ways. */
    private static void heaviest() {
        CurveFoundry f = new CurveFoundry();
        f.knot(0, 4095);
        f.knot(4095, 0);
        f.pieces();
        int top = 0;
        for (int i = 0; i < 7; i++) {
            top = f.chain(top, top);
        }
        Check.due("work", f.about(top, 1), 255);
        Check.due("too heavy", f.chain(top, top), -2);
        int heavy = f.chain(top, top - 1);
        heavy = f.chain(heavy, top - 2);
        heavy = f.chain(heavy, top - 3);
        Check.due("work", f.about(heavy, 1), 255 + 128 + 64 + 32);
        f.reading(0, 7, 7, 1);
        Check.due("an odd number of turnings about", f.value(heavy, 7), f.about(heavy, 2) == 1 ? 7 : 4088);
        for (int i = 0; i < 480; i++) {
            f.table(i % 4, heavy, 16);
        }
    }

    /** As many rows and TURNS as one object can have. */
    private static void widest() {
        CurveFoundry f = new CurveFoundry();
        zigzag(f);
        f.knot(0, 0);
        f.knot(4095, 1);
        f.pieces();
        for (int i = 2; i < 60; i++) {
            f.gain(i - 2, 999, 1, 1);
        }
        for (int c = 0; c < 60; c++) {
            f.about(c, 3);
            f.turn(c, 0);
            f.inverse(c, c);
        }
        for (int i = 0; i < 200; i++) {
            f.bank(i % 8, 64);
        }
    }

    private static long spent(ThreadMXBean bean, Runnable run) {
        long before = bean.getCurrentThreadAllocatedBytes();
        run.run();
        return bean.getCurrentThreadAllocatedBytes() - before;
    }

    private static void room() {
        ThreadMXBean bean = (ThreadMXBean) ManagementFactory.getThreadMXBean();
        long wide = spent(bean, () -> widest());
        Check.holds("a run's bytes stay below the room's elements: " + wide, wide < ROOM);
        long many = spent(bean, () -> {
            for (int i = 0; i < 512; i++) {
                new CurveFoundry().count(0);
            }
        });
        Check.holds("512 objects' bytes stay below the room's elements: " + many, many < ROOM);
        System.out.println("bytes of the widest run: " + wide + ", of 512 objects: " + many);
    }

    public static void main(String[] args) {
        deepest(0);
        deepest(1);
        heaviest();
        widest();
        room();
        Check.finish();
    }
}

import com.sun.management.ThreadMXBean;
import java.lang.management.ManagementFactory;
import java.util.Random;

/**
 * The room that a run takes, and that no call ever throws: runs of 512 calls with any arguments,
 * and a run of the dearest calls, measured by what the Java machine has given out.
 */
public final class RoomTests {
    private static final int CALLS = 512;
    /** 7.3 million elements are some 58 million bytes at most; a run is to take a small part. */
    private static final long MOST_BYTES = 400_000;
    private static int wrong = 0;

    public static void main(String[] args) {
        for (int run = 0; run < 3000; run++) {
            wildRun(new Random(run));
        }
        dearRun();
        deepRun();
        System.out.println(wrong == 0 ? "every run keeps to its room" : wrong + " faults");
        if (wrong != 0) {
            System.exit(1);
        }
    }

    private static void fault(String what) {
        wrong++;
        System.out.println(what);
    }

    private static long given() {
        ThreadMXBean bean = (ThreadMXBean) ManagementFactory.getThreadMXBean();
        return bean.getThreadAllocatedBytes(Thread.currentThread().getId());
    }

    // ---- any arguments

    private static int any(Random r) {
        switch (r.nextInt(12)) {
            case 0:
                return r.nextInt();
            case 1:
                return Integer.MIN_VALUE + r.nextInt(2);
            case 2:
                return Integer.MAX_VALUE - r.nextInt(2);
            case 3:
                return r.nextInt(50) - 5;
            default:
                return r.nextInt(5);
        }
    }

    private static long anyLong(Random r) {
        switch (r.nextInt(6)) {
            case 0:
                return r.nextLong();
            case 1:
                return Long.MIN_VALUE;
            case 2:
                return Long.MAX_VALUE;
            case 3:
                return 1000000000000000000L - r.nextInt(3);
            default:
                return any(r);
        }
    }

    private static void wildRun(Random r) {
        TreeTongues x = new TreeTongues();
        int signs = r.nextInt(7);
        for (int i = 0; i < signs; i++) {
            x.sign(r.nextInt(3));
        }
        for (int i = signs; i < CALLS; i++) {
            int call = r.nextInt(4) == 0 ? 5 + r.nextInt(3) : r.nextInt(30);
            try {
                long got = wildCall(x, r, call);
                if (got < -5) {
                    fault("call " + call + " answered " + got);
                }
            } catch (RuntimeException | StackOverflowError e) {
                fault("call " + call + " threw " + e);
            }
        }
    }

    private static long wildCall(TreeTongues x, Random r, int call) {
        switch (call) {
            case 0: return x.sign(any(r));
            case 1: return x.rank(any(r));
            case 2: return x.put(any(r));
            case 3: return r.nextInt(4) == 0 ? x.drop() : x.put(any(r));
            case 4: return x.at(any(r));
            case 5: return x.tongue(any(r));
            case 6: return x.rule(any(r), any(r), any(r), any(r), any(r));
            case 7: return x.last(any(r), any(r), r.nextBoolean());
            case 8: return x.of(any(r), any(r), any(r));
            case 9: return x.not(any(r));
            case 10: return x.renamed(any(r), r.nextInt(1 << 19));
            case 11: return x.back(any(r), any(r));
            case 12: return x.parts(any(r));
            case 13: return x.within(any(r));
            case 14: return x.grafted(any(r), any(r), any(r));
            case 15: return x.undo();
            case 16: return x.classes(any(r));
            case 17: return x.go(any(r), any(r), any(r), any(r));
            case 18: return x.isLast(any(r), any(r));
            case 19: return x.size(any(r), any(r));
            case 20: return x.classOf(any(r));
            case 21: return x.has(any(r));
            case 22: return x.least(any(r));
            case 23: return x.unlike(any(r), any(r));
            case 24: return x.ends(any(r));
            case 25: return x.count(any(r), any(r));
            case 26: return x.tree(any(r), anyLong(r));
            case 27: return x.place(any(r));
            case 28: return x.told(any(r));
            default: return x.told(3);
        }
    }

    // ---- the dearest calls

    private static void dearRun() {
        given();
        long before = given();
        TreeTongues x = new TreeTongues();
        int[] ranks = {0, 0, 1, 2, 2, 2};
        for (int rank : ranks) {
            x.sign(rank);
        }
        for (int t = 0; t < 2; t++) {
            x.tongue(3);
            for (int i = 0; i < 30; i++) {
                x.rule(t, i % 6, i % 3, i / 3 % 3, (i * 7 + t + i / 5) % 3);
            }
            x.last(t, t, true);
        }
        for (int i = 0; i < 60; i++) {
            x.last(0, i % 3, i % 2 == 0);
            x.grafted(0, 0, 1);
            x.of(3, 0, 1);
            x.unlike(1, x.told(2) - 1);
            x.tree(x.told(2) - 1, 999999999999999999L - i);
            x.place(0);
            x.count(1, 40);
            if (x.told(2) > 12) {
                x.undo();
                x.undo();
            }
        }
        long taken = given() - before;
        if (taken > MOST_BYTES) {
            fault("a dear run takes " + taken + " bytes");
        }
    }

    /** Trees as deep as they can be: 40 signs one upon the other. */
    private static void deepRun() {
        TreeTongues x = new TreeTongues();
        x.sign(0);
        x.sign(1);
        x.tongue(1);
        x.rule(0, 0, 0, 0, 0);
        x.rule(0, 1, 0, 0, 0);
        x.last(0, 0, true);
        if (x.tree(0, 39) != 40 || x.place(0) != 39) {
            fault("the deepest tree is not found");
        }
    }
}

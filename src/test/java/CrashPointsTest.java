import java.util.Arrays;
import java.util.List;

/**
 * A stop before every step of a large commit, and before every step of the recovery behind it:
 * each word is the model's, and of the transaction all is there in the end, or nothing.
 */
public final class CrashPointsTest {
    private static final Checks CHECKS = new Checks();
    private static final int[] SEEDS = {0, 1, 3, 42, -7, 123456789};
    private static final Op COMMIT = Op.of("commit");
    private static final Op RECOVER = Op.of("recover");
    private static final List<Op> BEFORE = List.of(
            addTo(0, 11), addTo(3, -4), Op.ofLongs("push", 21, 0), Op.ofLongs("push", 22, 0),
            Op.ofLongs("put", 5, 50), Op.ofLongs("put", 9, 90), Op.ofLongs("put", 7, 70));
    private static final List<Op> CHANGES = List.of(
            Op.of("begin"), addTo(0, 1), addTo(1, 1), addTo(3, 4), Op.of("pop"), Op.ofLongs("push", 23, 0),
            Op.ofLongs("put", 1, 10), Op.ofLongs("cut", 7, 0), Op.ofLongs("put", 9, 91), Op.ofLongs("put", 12, 120));

    public static void main(String[] args) {
        CHECKS.of("of each transaction all is there behind a crash, or nothing; the crash can come at any step, "
                + "also while the shelf is being brought back");
        int steps = stepsOfCommit();
        CHECKS.is("a stop behind the last step is not met", runTo(steps, 0, new Model()).look(0), 0);
        for (int seed : SEEDS) {
            for (int n = 0; n < steps; n++) {
                crashInCommit(n, seed);
                crashInRecovery(n, seed);
            }
        }
        CHECKS.end();
    }

    private static Op addTo(int c, long d) {
        return new Op("add", c, 0, d, 0, false);
    }

    private static int stepsOfCommit() {
        WordShelf x = runTo(1000, 0, new Model());
        return 1000 - x.look(8);
    }

    /** A shelf, and the same model, behind the commit with a stop at step n. */
    private static WordShelf runTo(int n, int seed, Model m) {
        WordShelf x = new WordShelf();
        for (Op op : BEFORE) {
            both(x, m, op);
        }
        for (Op op : CHANGES) {
            both(x, m, op);
        }
        both(x, m, Op.ofInts("stop", n, seed));
        both(x, m, COMMIT);
        return x;
    }

    private static void both(WordShelf x, Model m, Op op) {
        CHECKS.same(op.toString(), op.madeOn(x), op.madeOn(m));
    }

    private static void crashInCommit(int n, int seed) {
        Model m = new Model();
        WordShelf x = runTo(n, seed, m);
        compareMemory(x, m);
        both(x, m, RECOVER);
        checkAllOrNothing("stop " + n + ", seed " + seed, x);
    }

    private static void crashInRecovery(int n, int seed) {
        for (int k = 0; k < 40; k++) {
            Model m = new Model();
            WordShelf x = runTo(n, seed, m);
            both(x, m, Op.ofInts("stop", k, seed + k));
            both(x, m, RECOVER);
            boolean wentThrough = x.look(0) == 0;
            if (!wentThrough) {
                compareMemory(x, m);
                both(x, m, RECOVER);
            }
            checkAllOrNothing("stops " + n + " and " + k + ", seed " + seed, x);
            if (wentThrough) {
                break;
            }
        }
    }

    private static void compareMemory(WordShelf x, Model m) {
        for (int w = 0; w < 112; w++) {
            both(x, m, new Op("word", w, 0, 0, 0, false));
            both(x, m, new Op("word", w, 0, 0, 0, true));
        }
        both(x, m, Op.of("audit"));
        for (int which = 0; which < 9; which++) {
            both(x, m, Op.ofInts("look", which, 0));
        }
    }

    private static void checkAllOrNothing(String what, WordShelf x) {
        String seen = describe(x);
        boolean nothing = seen.equals("[11, 0, 0, -4][21, 22][5=50, 7=70, 9=90]");
        boolean all = seen.equals("[12, 1, 0, 0][22, 23][1=10, 5=50, 9=91, 12=120]");
        CHECKS.is(what + " leaves " + seen + ": all or nothing", nothing || all, true);
        CHECKS.is(what + ": audit", x.audit(), 0);
    }

    private static String describe(WordShelf x) {
        long[] counters = {x.counter(0), x.counter(1), x.counter(2), x.counter(3)};
        long[] queue = new long[x.look(2)];
        for (int i = 0; i < queue.length; i++) {
            queue[i] = x.queued(i);
        }
        String[] pairs = new String[x.look(3)];
        long from = Long.MIN_VALUE;
        for (int i = 0; i < pairs.length; i++) {
            long key = x.next(from, true);
            pairs[i] = key + "=" + x.next(from, false);
            from = key + 1;
        }
        return Arrays.toString(counters) + Arrays.toString(queue) + Arrays.toString(pairs);
    }
}

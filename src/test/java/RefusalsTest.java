import java.util.ArrayList;
import java.util.List;
import java.util.function.Supplier;

/**
 * "What throws (but for a stop) or is refused changes nothing", and "the shelf being DOWN comes first":
 * a shelf with a refused call behind it, and its twin without that call, show the same everywhere.
 */
public final class RefusalsTest {
    private static final Checks CHECKS = new Checks();
    private static final String STATE = IllegalStateException.class.getName();
    private static final String INDEX = IndexOutOfBoundsException.class.getName();
    private static final String REFUSED = UnsupportedOperationException.class.getName();
    private static final int[] NO_COUNTER = {-1, 4, Integer.MIN_VALUE, Integer.MAX_VALUE};

    public static void main(String[] args) {
        refusedOnABusyShelf();
        refusedInATransaction();
        refusedOnAFullShelf();
        refusedOnAnEmptyShelf();
        refusedWhenDown();
        downComesFirst();
        CHECKS.end();
    }

    private static void refusedOnABusyShelf() {
        CHECKS.of("What throws (but for a stop) or is refused changes nothing.");
        for (Op call : wrongIndexes()) {
            changesNothing("busy", RefusalsTest::busy, call, INDEX);
        }
        changesNothing("busy", RefusalsTest::busy, Op.of("commit"), STATE);
        changesNothing("busy", RefusalsTest::busy, Op.of("abort"), STATE);
        changesNothing("busy", RefusalsTest::busy, Op.of("recover"), STATE);
        changesNothing("busy", RefusalsTest::busy, Op.ofLongs("cut", 15, 0), "0");
        changesNothing("busy", RefusalsTest::busy, Op.ofInts("stop", -1, 99), "0");
        changesNothing("busy", RefusalsTest::busy, Op.ofInts("stop", Integer.MIN_VALUE, 99), "0");
    }

    private static void refusedInATransaction() {
        CHECKS.of("What throws (but for a stop) or is refused changes nothing: in a transaction.");
        for (Op call : wrongIndexes()) {
            changesNothing("in a transaction", RefusalsTest::inTransaction, call, INDEX);
        }
        changesNothing("in a transaction", RefusalsTest::inTransaction, Op.of("begin"), STATE);
        changesNothing("in a transaction", RefusalsTest::inTransaction, Op.of("recover"), STATE);
        changesNothing("in a transaction", RefusalsTest::inTransaction, Op.ofLongs("cut", 15, 0), "0");
        changesNothing("in a transaction", RefusalsTest::inTransaction, Op.ofInts("stop", -1, 99), "0");
    }

    private static void refusedOnAFullShelf() {
        CHECKS.of("What throws (but for a stop) or is refused changes nothing: full.");
        changesNothing("full", RefusalsTest::full, Op.ofLongs("push", 5, 0), REFUSED);
        changesNothing("full", RefusalsTest::full, Op.ofLongs("put", 5, 5), REFUSED);
        changesNothing("full", RefusalsTest::full, Op.ofLongs("put", 85, 5), REFUSED);
        changesNothing("full", RefusalsTest::full, Op.ofLongs("put", Long.MIN_VALUE, 5), REFUSED);
        changesNothing("full", RefusalsTest::full, Op.ofInts("queued", 8, 0), INDEX);
        changesNothing("full", RefusalsTest::full, Op.ofLongs("next", 81, 0), INDEX);
        changesNothing("filled in it", RefusalsTest::filledInATransaction, Op.ofLongs("push", 5, 0), REFUSED);
        changesNothing("filled in it", RefusalsTest::filledInATransaction, Op.ofLongs("put", 5, 5), REFUSED);
    }

    private static void refusedOnAnEmptyShelf() {
        CHECKS.of("What throws (but for a stop) or is refused changes nothing: empty.");
        changesNothing("empty", WordShelf::new, Op.of("pop"), REFUSED);
        changesNothing("empty", WordShelf::new, Op.of("queued"), INDEX);
        changesNothing("empty", WordShelf::new, Op.of("next"), INDEX);
        changesNothing("empty", WordShelf::new, Op.of("cut"), "0");
        changesNothing("empty", WordShelf::new, Op.of("frozen"), INDEX);
        changesNothing("emptied in it", RefusalsTest::emptiedInATransaction, Op.of("pop"), REFUSED);
        changesNothing("emptied in it", RefusalsTest::emptiedInATransaction, Op.of("queued"), INDEX);
    }

    private static void refusedWhenDown() {
        CHECKS.of("What throws (but for a stop) or is refused changes nothing: DOWN.");
        for (Op call : callsThatNeedTheShelfUp()) {
            changesNothing("crashed", RefusalsTest::crashed, call, STATE);
            changesNothing("stopped", RefusalsTest::stopped, call, STATE);
        }
        for (Op call : new Op[] {Op.of("frozen"), new Op("frozen", 0, 0, 0, 0, true), Op.ofInts("frozen", 2, 0),
            Op.ofInts("word", 112, 0), Op.ofInts("word", -1, 0)}) {
            changesNothing("crashed", RefusalsTest::crashed, call, INDEX);
        }
        changesNothing("stopped", RefusalsTest::stopped, Op.ofInts("stop", -1, 5), "0");
    }

    private static void downComesFirst() {
        CHECKS.of("Where a call can throw for several reasons, the shelf being DOWN comes first.");
        for (Op call : callsThatNeedTheShelfUp()) {
            CHECKS.same("empty and down: " + call, call.madeOn(Shelves.down()), STATE);
            WordShelf x = full();
            x.crash(0);
            CHECKS.same("full and down: " + call, call.madeOn(x), STATE);
        }
    }

    /** Calls whose index, key or snapshot is not there on any of the shelves of this test that are up. */
    private static List<Op> wrongIndexes() {
        List<Op> calls = new ArrayList<>();
        for (int c : NO_COUNTER) {
            calls.add(new Op("add", c, 0, 7, 0, false));
            calls.add(Op.ofInts("counter", c, 0));
            calls.add(Op.ofInts("freeze", c, 0));
            calls.add(new Op("frozen", c, 0, 0, 0, true));
            calls.add(Op.ofInts("queued", c, 0));
        }
        calls.add(new Op("frozen", 0, 0, 15, 0, false));
        calls.add(new Op("frozen", 0, 0, 4, 0, true));
        calls.add(Op.ofInts("freeze", 2, 0));
        calls.add(Op.ofLongs("next", 1000, 0));
        calls.add(Op.ofInts("word", 112, 0));
        calls.add(Op.ofInts("word", -1, 0));
        return calls;
    }

    /** Every call that throws when the shelf is down, with right and with wrong arguments. */
    private static List<Op> callsThatNeedTheShelfUp() {
        List<Op> calls = new ArrayList<>();
        for (String name : new String[] {"begin", "commit", "abort", "pop", "crash"}) {
            calls.add(Op.of(name));
        }
        for (int i : new int[] {0, 1, 2, 3, 4, 8, -1, Integer.MIN_VALUE, Integer.MAX_VALUE}) {
            calls.add(new Op("add", i, 0, 7, 0, false));
            calls.add(new Op("add", i, 0, 0, 0, false));
            calls.add(Op.ofInts("counter", i, 0));
            calls.add(Op.ofInts("queued", i, 0));
            calls.add(Op.ofInts("freeze", i, 0));
        }
        for (long k : new long[] {0, 10, 15, 80, 81, Long.MIN_VALUE, Long.MAX_VALUE}) {
            calls.add(Op.ofLongs("push", k, 0));
            calls.add(Op.ofLongs("put", k, 1));
            calls.add(Op.ofLongs("cut", k, 0));
            calls.add(new Op("next", 0, 0, k, 0, false));
            calls.add(new Op("next", 0, 0, k, 0, true));
        }
        return calls;
    }

    /** Something everywhere, outside of a transaction, and a stop that is set. */
    private static WordShelf busy() {
        WordShelf x = Shelves.withQueue(7, 2);
        x.add(0, 5);
        x.add(3, -2);
        x.put(10, 1);
        x.put(20, 2);
        x.freeze(0);
        x.put(30, 3);
        x.freeze(1);
        x.stop(8, Shelves.KEEPS_NEW);
        return x;
    }

    private static WordShelf inTransaction() {
        WordShelf x = busy();
        x.begin();
        x.add(1, 4);
        x.push(6);
        x.put(16, 4);
        x.cut(10);
        return x;
    }

    private static WordShelf full() {
        WordShelf x = Shelves.withMap(8);
        for (int i = 0; i < 8; i++) {
            x.push(i);
        }
        x.freeze(0);
        x.stop(8, Shelves.KEEPS_NEW);
        return x;
    }

    private static WordShelf filledInATransaction() {
        WordShelf x = Shelves.withAllWordsChanged();
        x.push(9);
        x.stop(8, Shelves.KEEPS_NEW);
        return x;
    }

    private static WordShelf emptiedInATransaction() {
        WordShelf x = Shelves.withQueue(7, 1);
        x.begin();
        x.pop();
        x.stop(8, Shelves.KEEPS_NEW);
        return x;
    }

    private static WordShelf crashed() {
        WordShelf x = inTransaction();
        x.crash(5);
        return x;
    }

    /** Down at the log's count, with a stop for the recovery. */
    private static WordShelf stopped() {
        WordShelf x = busy();
        new Op("add", 2, 0, 9, 0, false).madeOn(x);
        x.stop(3, Shelves.KEEPS_NEW);
        return x;
    }

    /** The call answers as due; behind it, and behind what comes next, all is as on a twin without it. */
    private static void changesNothing(String state, Supplier<WordShelf> maker, Op call, String due) {
        WordShelf x = maker.get();
        CHECKS.same(state + ": " + call, call.madeOn(x), due);
        CHECKS.same(state + ": what " + call + " changed",
                Shelves.difference(Shelves.picture(x), Shelves.picture(maker.get())), "");
        WordShelf later = maker.get();
        WordShelf twin = maker.get();
        call.madeOn(later);
        CHECKS.same(state + ": what comes behind " + call, goneOn(later), goneOn(twin));
        CHECKS.same(state + ": what " + call + " changed later",
                Shelves.difference(Shelves.picture(later), Shelves.picture(twin)), "");
    }

    /** Answers that also depend on what no read shows, such as the stop's seed. */
    private static List<String> goneOn(WordShelf x) {
        List<String> answers = new ArrayList<>();
        for (Op op : new Op[] {Op.of("recover"), Op.of("begin"), new Op("add", 0, 0, 3, 0, false), Op.of("commit"),
            Op.of("recover"), Op.of("pop"), Op.ofLongs("cut", 20, 0)}) {
            answers.add(op.name + " " + op.madeOn(x));
        }
        return answers;
    }
}

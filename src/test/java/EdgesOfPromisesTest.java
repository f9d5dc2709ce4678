import java.util.Arrays;

/** One method for each sentence of the promises 1 to 21 that names a boundary case; the sentence is quoted. */
public final class EdgesOfPromisesTest {
    private static final Checks CHECKS = new Checks();
    private static final Class<IllegalStateException> STATE = IllegalStateException.class;
    private static final Class<IndexOutOfBoundsException> INDEX = IndexOutOfBoundsException.class;
    private static final Class<UnsupportedOperationException> REFUSED = UnsupportedOperationException.class;

    public static void main(String[] args) {
        transactions();
        changes();
        reads();
        crashes();
        shows();
        CHECKS.end();
    }

    private static void transactions() {
        newShelfIsEmpty();
        beginWhenDown();
        beginTwice();
        commitWhenDown();
        commitOfNoTransaction();
        commitAtAStop();
        commitCounts();
        abortWhenDown();
        abortOfNoTransaction();
        abortedChangesAreNone();
    }

    private static void changes() {
        addAtAStop();
        addToNoCounter();
        pushAtAStop();
        pushOnAFullQueue();
        popAtAStop();
        popOfNone();
        putAtAStop();
        putInAFullMap();
        putOfThisKeyInAFullMap();
        cutAtAStop();
        cutOfNoSuchKey();
        changesWhenDown();
    }

    private static void reads() {
        nextNotBelow();
        nextOfNone();
        counterOfNone();
        queuedOfNone();
        readsWhenDown();
        freezeOfNeither();
        freezeInPlaceOfAnother();
        frozenOfNoSnapshot();
        frozenOfNoKey();
        frozenOfNoCounter();
    }

    private static void crashes() {
        crashWhenDown();
        stopInPlaceOfAnother();
        stopWhenDown();
        stopBelow0();
        stopOfTheMost();
        recoverWhenUp();
        recoverAtAStop();
        recoverCounts();
    }

    private static void shows() {
        wordOfNone();
        looseOfNone();
        lookOfAnyOther();
        lookWhenDown();
        lookAtNoStop();
        auditOfAFullShelf();
        auditOfKeys();
        auditOfTheLog();
        auditFirstOfThese();
    }

    private static void newShelfIsEmpty() {
        CHECKS.of("1: A shelf that is up, with nothing in it.");
        WordShelf x = new WordShelf();
        CHECKS.looks("new", x, 0, 0, 0, 0, 0, 0, 0, 0, -1);
        CHECKS.is("audit", x.audit(), 0);
        CHECKS.fails("nothing queued", INDEX, () -> x.queued(0));
        CHECKS.fails("no pair", INDEX, () -> x.next(Long.MIN_VALUE, true));
        // A map that has no pairs has no key 0 either, though its words are 0.
        CHECKS.is("no key 0", x.cut(0), false);
        CHECKS.fails("no snapshot", INDEX, () -> x.frozen(0, true, 0));
    }

    private static void beginWhenDown() {
        CHECKS.of("2: IllegalStateException if it is DOWN");
        WordShelf x = Shelves.down();
        CHECKS.fails("begin", STATE, x::begin);
        x.recover();
        CHECKS.is("none began", x.look(1), 0);
    }

    private static void beginTwice() {
        CHECKS.of("2: or there is one.");
        WordShelf x = new WordShelf();
        x.begin();
        x.add(0, 1);
        CHECKS.fails("begin", STATE, x::begin);
        CHECKS.is("the first one goes on", x.commit(), 1);
        x.begin();
        CHECKS.is("behind a commit", x.look(1), 1);
        x.abort();
        x.begin();
        CHECKS.is("behind an abort", x.look(1), 1);
    }

    private static void commitWhenDown() {
        CHECKS.of("3: IllegalStateException if it is DOWN");
        WordShelf x = new WordShelf();
        x.begin();
        x.add(0, 1);
        x.crash(0);
        CHECKS.fails("commit", STATE, x::commit);
        CHECKS.is("no steps", x.look(4), 0);
    }

    private static void commitOfNoTransaction() {
        CHECKS.of("3: there is none");
        WordShelf x = new WordShelf();
        CHECKS.fails("of a new shelf", STATE, x::commit);
        x.add(0, 1);
        CHECKS.fails("behind a change outside", STATE, x::commit);
        x.begin();
        x.commit();
        CHECKS.fails("behind a commit", STATE, x::commit);
        x.begin();
        x.abort();
        CHECKS.fails("behind an abort", STATE, x::commit);
        x.begin();
        x.crash(0);
        x.recover();
        CHECKS.fails("behind a crash", STATE, x::commit);
    }

    private static void commitAtAStop() {
        CHECKS.of("3: or at a stop.");
        for (int n = 0; n < 13; n++) {
            WordShelf x = new WordShelf();
            x.begin();
            x.add(0, 1);
            x.stop(n, Shelves.KEEPS_OLD);
            CHECKS.fails("commit, stop " + n, STATE, x::commit);
            CHECKS.looks("stop " + n, x, 1, 0, -1, -1);
            x.recover();
            CHECKS.is("nothing of it, stop " + n, x.counter(0), 0);
        }
        WordShelf y = new WordShelf();
        y.begin();
        y.add(0, 1);
        y.stop(13, Shelves.KEEPS_OLD);
        CHECKS.is("just not at the stop", y.commit(), 1);
    }

    private static void commitCounts() {
        CHECKS.of("3: how many words it changed.");
        WordShelf x = new WordShelf();
        x.begin();
        CHECKS.is("none", x.commit(), 0);
        WordShelf y = Shelves.withAllWordsChanged();
        CHECKS.is("all", y.commit(), 31);
        CHECKS.is("ended", y.look(1), 0);
    }

    private static void abortWhenDown() {
        CHECKS.of("4: IllegalStateException if it is DOWN");
        WordShelf x = new WordShelf();
        x.begin();
        x.crash(0);
        CHECKS.fails("abort", STATE, x::abort);
        CHECKS.is("down still", x.look(0), 1);
    }

    private static void abortOfNoTransaction() {
        CHECKS.of("4: or there is none.");
        WordShelf x = new WordShelf();
        CHECKS.fails("of a new shelf", STATE, x::abort);
        x.begin();
        x.abort();
        CHECKS.fails("behind an abort", STATE, x::abort);
        x.begin();
        x.commit();
        CHECKS.fails("behind a commit", STATE, x::abort);
    }

    private static void abortedChangesAreNone() {
        CHECKS.of("4: The transaction ends, and its changes are none.");
        WordShelf x = Shelves.withAllWordsChanged();
        x.stop(0, 0);
        x.abort();
        CHECKS.looks("empty again, no steps", x, 0, 0, 0, 0, 0, 0, 0, 0, 0);
        CHECKS.fails("queue", REFUSED, x::pop);
        CHECKS.fails("map", INDEX, () -> x.next(Long.MIN_VALUE, true));
        CHECKS.is("counter", x.counter(3), 0);
        x.begin();
        CHECKS.is("none of them comes again", x.commit(), 0);
    }

    /** A change throws before its first and before its last step, and goes through with a stop just behind. */
    private static void atAStop(Op change, WordShelf[] shelves, int steps, String due) {
        int[] stops = {0, steps - 1, steps};
        for (int i = 0; i < stops.length; i++) {
            WordShelf x = shelves[i];
            boolean met = stops[i] < steps;
            x.stop(stops[i], Shelves.KEEPS_OLD);
            CHECKS.same(change + ", stop " + stops[i], change.madeOn(x), met ? STATE.getName() : due);
            CHECKS.is(change + ": down, stop " + stops[i], x.look(0), met ? 1 : 0);
            CHECKS.is(change + ": steps left, stop " + stops[i], x.look(8), met ? -1 : 0);
        }
    }

    private static void addAtAStop() {
        CHECKS.of("5: IllegalStateException .. at a stop");
        WordShelf[] shelves = {new WordShelf(), new WordShelf(), new WordShelf()};
        atAStop(new Op("add", 1, 0, 5, 0, false), shelves, 13, "5");
        shelves[1].recover();
        CHECKS.is("nothing of it", shelves[1].counter(1), 0);
    }

    private static void addToNoCounter() {
        CHECKS.of("5: IndexOutOfBoundsException if c is not 0 .. 3.");
        WordShelf x = new WordShelf();
        CHECKS.is("the first", x.add(0, 4), 4);
        CHECKS.is("the last", x.add(3, 5), 5);
        CHECKS.fails("one too large", INDEX, () -> x.add(4, 1));
        for (int c : Shelves.NO_INDEX) {
            CHECKS.fails("add to " + c, INDEX, () -> x.add(c, 1));
            CHECKS.fails("add of 0 to " + c, INDEX, () -> x.add(c, 0));
        }
        CHECKS.words("words", x, 0, 4, 0, 0, 5, 0, 0);
    }

    private static void pushAtAStop() {
        CHECKS.of("6: IllegalStateException .. at a stop");
        WordShelf[] shelves = {Shelves.withQueue(7, 7), Shelves.withQueue(7, 7), Shelves.withQueue(7, 7)};
        // Words 5 and 12: 4 stores, flush, fence, 3, 2 stores, 2 flushes, fence, 3.
        atAStop(Op.ofLongs("push", 5, 0), shelves, 17, "8");
        shelves[1].recover();
        CHECKS.is("nothing of it", shelves[1].look(2), 7);
    }

    private static void pushOnAFullQueue() {
        CHECKS.of("6: UnsupportedOperationException if it has 8.");
        for (int first = 0; first < 8; first++) {
            WordShelf x = Shelves.withQueue(first, 7);
            CHECKS.is("the eighth", x.push(107), 8);
            CHECKS.fails("the ninth, first " + first, REFUSED, () -> x.push(108));
            CHECKS.is("none lost", x.pop(), 100);
            CHECKS.is("room again", x.push(108), 8);
            CHECKS.fails("full again", REFUSED, () -> x.push(109));
            CHECKS.is("the last", x.queued(7), 108);
        }
    }

    private static void popAtAStop() {
        CHECKS.of("7: IllegalStateException .. at a stop");
        WordShelf[] shelves = {Shelves.withQueue(7, 8), Shelves.withQueue(7, 8), Shelves.withQueue(7, 8)};
        // Words 4 and 5: 4 stores, flush, fence, 3, 2 stores, flush, fence, 3.
        atAStop(Op.of("pop"), shelves, 16, "100");
        shelves[1].recover();
        CHECKS.is("still there", shelves[1].queued(0), 100);
    }

    private static void popOfNone() {
        CHECKS.of("7: UnsupportedOperationException if there is none.");
        for (int first = 0; first < 8; first++) {
            WordShelf x = Shelves.withQueue(first, 0);
            CHECKS.fails("none, first " + first, REFUSED, x::pop);
            x.push(3);
            CHECKS.is("the only one", x.pop(), 3);
            CHECKS.fails("none again", REFUSED, x::pop);
            CHECKS.words("first place", x, 4, (first + 1) % 8, 0);
        }
    }

    private static void putAtAStop() {
        CHECKS.of("8: IllegalStateException .. at a stop");
        WordShelf[] shelves = {Shelves.withMap(7), Shelves.withMap(7), Shelves.withMap(7)};
        // Words 14, 22 and 30: 6 stores, flush, fence, 3, 3 stores, 3 flushes, fence, 3.
        atAStop(Op.ofLongs("put", 80, 8), shelves, 21, "8");
        shelves[1].recover();
        CHECKS.is("nothing of it", shelves[1].look(3), 7);
    }

    private static void putInAFullMap() {
        CHECKS.of("8: UnsupportedOperationException if it has 8 and not this key.");
        WordShelf x = Shelves.withMap(7);
        CHECKS.is("the eighth", x.put(80, 8000), 8);
        for (int i = 0; i <= 8; i++) {
            long key = 10 * i + 5;
            CHECKS.fails("key " + key, REFUSED, () -> x.put(key, 1));
        }
        CHECKS.fails("the least key", REFUSED, () -> x.put(Long.MIN_VALUE, 1));
        CHECKS.fails("the most key", REFUSED, () -> x.put(Long.MAX_VALUE, 1));
        x.cut(10);
        CHECKS.fails("the last words, which stayed, are none of its pairs", INDEX, () -> x.next(81, true));
        CHECKS.is("room again", x.put(85, 1), 8);
        CHECKS.fails("full again", REFUSED, () -> x.put(10, 1));
    }

    private static void putOfThisKeyInAFullMap() {
        CHECKS.of("8: if it has 8 and not this key: it has this one");
        WordShelf x = Shelves.withMap(8);
        for (int i = 1; i <= 8; i++) {
            CHECKS.is("put", x.put(10 * i, -i), 8);
            CHECKS.is("number", x.next(10 * i, false), -i);
        }
    }

    private static void cutAtAStop() {
        CHECKS.of("9: IllegalStateException .. at a stop.");
        WordShelf[] shelves = {Shelves.withMap(8), Shelves.withMap(8), Shelves.withMap(8)};
        // Word 14: one word.
        atAStop(Op.ofLongs("cut", 80, 0), shelves, 13, "1");
        shelves[1].recover();
        CHECKS.is("still there", shelves[1].next(80, false), 8000);
    }

    private static void cutOfNoSuchKey() {
        CHECKS.of("9: false if the map has no such key.");
        WordShelf x = new WordShelf();
        x.stop(0, 0);
        CHECKS.is("of none", x.cut(0), false);
        WordShelf y = Shelves.withMap(8);
        for (int i = 0; i <= 8; i++) {
            CHECKS.is("beside the keys", y.cut(10 * i + 5), false);
        }
        CHECKS.is("the least", y.cut(Long.MIN_VALUE), false);
        CHECKS.is("the most", y.cut(Long.MAX_VALUE), false);
        CHECKS.is("all there", y.look(3), 8);
        for (int i = 8; i >= 1; i--) {
            CHECKS.is("the last", y.cut(10 * i), true);
            CHECKS.is("not twice", y.cut(10 * i), false);
        }
        CHECKS.is("empty", y.look(3), 0);
    }

    private static void changesWhenDown() {
        CHECKS.of("5 to 9: IllegalStateException if it is DOWN");
        Op[] changes = {new Op("add", 0, 0, 1, 0, false), Op.ofLongs("push", 1, 0), Op.of("pop"),
            Op.ofLongs("put", 10, 1), Op.ofLongs("cut", 10, 0)};
        for (Op change : changes) {
            WordShelf x = Shelves.withMap(1);
            x.push(7);
            x.crash(0);
            CHECKS.same(change.toString(), change.madeOn(x), STATE.getName());
            x.recover();
            CHECKS.looks("as it was", x, 0, 0, 1, 1);
            CHECKS.is("as it was", x.next(10, false), 1000);
            CHECKS.is("as it was", x.counter(0), 0);
        }
    }

    private static void nextNotBelow() {
        CHECKS.of("10: the pair with the least key that is not below this one");
        WordShelf x = Shelves.withMap(8);
        CHECKS.is("the least of all", x.next(Long.MIN_VALUE, true), 10);
        for (int i = 1; i <= 8; i++) {
            CHECKS.is("just below", x.next(10 * i - 1, true), 10 * i);
            CHECKS.is("equal", x.next(10 * i, true), 10 * i);
            CHECKS.is("equal: its number", x.next(10 * i, false), 1000 * i);
        }
        WordShelf y = new WordShelf();
        y.put(Long.MAX_VALUE, 1);
        y.put(Long.MIN_VALUE, 2);
        CHECKS.is("the least key", y.next(Long.MIN_VALUE, true), Long.MIN_VALUE);
        CHECKS.is("above the least key", y.next(Long.MIN_VALUE + 1, true), Long.MAX_VALUE);
        CHECKS.is("the most key", y.next(Long.MAX_VALUE, false), 1);
    }

    private static void nextOfNone() {
        CHECKS.of("10: IndexOutOfBoundsException if there is none.");
        WordShelf x = new WordShelf();
        CHECKS.fails("of an empty map", INDEX, () -> x.next(Long.MIN_VALUE, false));
        CHECKS.fails("of an empty map, with key", INDEX, () -> x.next(0, true));
        for (int pairs = 1; pairs <= 8; pairs++) {
            WordShelf y = Shelves.withMap(pairs);
            long above = 10 * pairs + 1;
            CHECKS.fails("just above the last of " + pairs, INDEX, () -> y.next(above, false));
            CHECKS.fails("far above the last of " + pairs, INDEX, () -> y.next(Long.MAX_VALUE, true));
            y.cut(10 * pairs);
            CHECKS.fails("the last was cut", INDEX, () -> y.next(above - 1, false));
        }
    }

    private static void counterOfNone() {
        CHECKS.of("11: IndexOutOfBoundsException if c is not 0 .. 3.");
        WordShelf x = new WordShelf();
        x.add(0, 4);
        x.add(3, 5);
        x.push(6);
        CHECKS.is("the first", x.counter(0), 4);
        CHECKS.is("the last", x.counter(3), 5);
        CHECKS.fails("one too large", INDEX, () -> x.counter(4));
        CHECKS.fails("two too large", INDEX, () -> x.counter(5));
        for (int c : Shelves.NO_INDEX) {
            CHECKS.fails("counter " + c, INDEX, () -> x.counter(c));
        }
    }

    private static void queuedOfNone() {
        CHECKS.of("12: IndexOutOfBoundsException if there is none such.");
        for (int first = 0; first < 8; first++) {
            for (int size = 0; size <= 8; size++) {
                WordShelf x = Shelves.withQueue(first, size);
                int behind = size;
                if (size > 0) {
                    CHECKS.is("the first", x.queued(0), 100);
                    CHECKS.is("the last", x.queued(size - 1), 100 + size - 1);
                }
                CHECKS.fails("queued " + behind + " of " + size, INDEX, () -> x.queued(behind));
                for (int i : Shelves.NO_INDEX) {
                    CHECKS.fails("queued " + i + " of " + size, INDEX, () -> x.queued(i));
                }
            }
        }
    }

    private static void readsWhenDown() {
        CHECKS.of("10 to 13: IllegalStateException if it is DOWN");
        WordShelf x = Shelves.withMap(1);
        x.push(7);
        x.crash(0);
        CHECKS.fails("next", STATE, () -> x.next(10, true));
        CHECKS.fails("next", STATE, () -> x.next(10, false));
        CHECKS.fails("counter", STATE, () -> x.counter(0));
        CHECKS.fails("queued", STATE, () -> x.queued(0));
        CHECKS.fails("freeze", STATE, () -> x.freeze(0));
        x.recover();
        CHECKS.fails("not frozen", INDEX, () -> x.frozen(0, true, 0));
        CHECKS.is("next", x.next(10, true), 10);
        CHECKS.is("queued", x.queued(0), 7);
    }

    private static void freezeOfNeither() {
        CHECKS.of("13: IndexOutOfBoundsException if s is neither.");
        WordShelf x = new WordShelf();
        CHECKS.fails("one too large", INDEX, () -> x.freeze(2));
        for (int s : Shelves.NO_INDEX) {
            CHECKS.fails("freeze " + s, INDEX, () -> x.freeze(s));
        }
        for (int s = 0; s < 2; s++) {
            int snapshot = s;
            CHECKS.fails("none taken", INDEX, () -> x.frozen(snapshot, true, 0));
        }
    }

    private static void freezeInPlaceOfAnother() {
        CHECKS.of("13: Snapshot s, 0 or 1, is taken, in place of another one.");
        WordShelf x = Shelves.withMap(8);
        x.freeze(0);
        x.freeze(1);
        x.cut(80);
        x.add(0, 5);
        x.freeze(1);
        CHECKS.fails("taken again", INDEX, () -> x.frozen(1, false, 80));
        CHECKS.is("taken again", x.frozen(1, true, 0), 5);
        CHECKS.is("the other one stays", x.frozen(0, false, 80), 8000);
        CHECKS.is("the other one stays", x.frozen(0, true, 0), 0);
    }

    private static void frozenOfNoSnapshot() {
        CHECKS.of("14: IndexOutOfBoundsException if there is no such snapshot");
        WordShelf x = Shelves.withMap(1);
        CHECKS.fails("none taken", INDEX, () -> x.frozen(0, true, 0));
        x.freeze(1);
        CHECKS.fails("the other one is taken", INDEX, () -> x.frozen(0, true, 0));
        CHECKS.fails("the other one is taken", INDEX, () -> x.frozen(0, false, 10));
        x.freeze(0);
        CHECKS.is("taken", x.frozen(0, false, 10), 1000);
        CHECKS.fails("one too large", INDEX, () -> x.frozen(2, true, 0));
        for (int s : Shelves.NO_INDEX) {
            CHECKS.fails("snapshot " + s, INDEX, () -> x.frozen(s, false, 10));
        }
        x.crash(0);
        CHECKS.fails("gone, down", INDEX, () -> x.frozen(0, false, 10));
        CHECKS.fails("gone, down", INDEX, () -> x.frozen(1, true, 0));
    }

    private static void frozenOfNoKey() {
        CHECKS.of("14: no such .. key");
        WordShelf x = new WordShelf();
        x.freeze(0);
        CHECKS.fails("of an empty map", INDEX, () -> x.frozen(0, false, 0));
        WordShelf y = Shelves.withMap(8);
        y.cut(80);
        y.freeze(1);
        y.put(75, 1);
        for (long key : new long[] {9, 11, 75, 80, Long.MIN_VALUE, Long.MAX_VALUE}) {
            CHECKS.fails("key " + key, INDEX, () -> y.frozen(1, false, key));
        }
        CHECKS.is("the first", y.frozen(1, false, 10), 1000);
        CHECKS.is("the last", y.frozen(1, false, 70), 7000);
    }

    private static void frozenOfNoCounter() {
        CHECKS.of("14: no such .. counter");
        WordShelf x = Shelves.withMap(8);
        x.add(0, 6);
        x.add(3, 9);
        x.freeze(0);
        CHECKS.is("the first", x.frozen(0, true, 0), 6);
        CHECKS.is("the last", x.frozen(0, true, 3), 9);
        // Cut to an int, the large ones would be 0 or 3.
        for (long c : new long[] {-1, 4, 10, 1L << 32, (1L << 32) + 3, Long.MIN_VALUE, Long.MAX_VALUE}) {
            CHECKS.fails("counter " + c, INDEX, () -> x.frozen(0, true, c));
        }
    }

    private static void crashWhenDown() {
        CHECKS.of("15: IllegalStateException if it is DOWN.");
        WordShelf x = Shelves.down();
        CHECKS.fails("crash", STATE, () -> x.crash(0));
        CHECKS.is("one crash", x.look(7), 1);
        x.recover();
        x.crash(0);
        CHECKS.is("up between them", x.look(7), 2);
    }

    private static void stopInPlaceOfAnother() {
        CHECKS.of("16: A STOP behind n more steps, in place of another one: true");
        WordShelf x = new WordShelf();
        CHECKS.is("the first", x.stop(0, Shelves.KEEPS_OLD), true);
        CHECKS.is("the second", x.stop(8, Shelves.KEEPS_NEW), true);
        CHECKS.is("its steps", x.look(8), 8);
        CHECKS.fails("met", STATE, () -> x.add(0, 5));
        CHECKS.words("by its seed", x, 0, 5);
        x.stop(8, Shelves.KEEPS_NEW);
        x.stop(0, Shelves.KEEPS_OLD);
        CHECKS.is("a nearer one", x.look(8), 0);
        CHECKS.fails("met by the first step", STATE, x::recover);
    }

    private static void stopWhenDown() {
        CHECKS.of("16: (also when it is DOWN): true");
        WordShelf x = Shelves.down();
        CHECKS.is("down", x.stop(4, Shelves.KEEPS_NEW), true);
        CHECKS.is("its steps", x.look(8), 4);
        CHECKS.is("recover takes none", x.recover(), 0);
        CHECKS.fails("met behind 4", STATE, () -> x.add(0, 1));
        CHECKS.looks("4 steps", x, 1, 0, -1, -1, 2, 1, 1, 2, -1);
    }

    private static void stopBelow0() {
        CHECKS.of("16: false if n is below 0.");
        WordShelf x = new WordShelf();
        CHECKS.is("-1", x.stop(-1, 0), false);
        CHECKS.is("the least", x.stop(Integer.MIN_VALUE, 0), false);
        CHECKS.is("none set", x.look(8), -1);
        CHECKS.is("0 is not below", x.stop(0, 0), true);
        x.stop(8, Shelves.KEEPS_NEW);
        CHECKS.is("-1", x.stop(-1, Shelves.KEEPS_OLD), false);
        CHECKS.is("the other one's steps", x.look(8), 8);
        CHECKS.fails("met", STATE, () -> x.add(0, 5));
        CHECKS.words("by the other one's seed", x, 0, 5);
        CHECKS.is("-1 when down", x.stop(-1, 0), false);
        CHECKS.is("none set", x.look(8), -1);
    }

    private static void stopOfTheMost() {
        CHECKS.of("16: A STOP behind n more steps: the most");
        WordShelf x = new WordShelf();
        CHECKS.is("the most", x.stop(Integer.MAX_VALUE, 0), true);
        x.add(0, 1);
        CHECKS.is("13 fewer", x.look(8), Integer.MAX_VALUE - 13);
    }

    private static void recoverWhenUp() {
        CHECKS.of("17: IllegalStateException if it is not DOWN");
        WordShelf x = new WordShelf();
        CHECKS.fails("a new shelf", STATE, x::recover);
        x.begin();
        x.add(0, 1);
        CHECKS.fails("in a transaction", STATE, x::recover);
        CHECKS.is("it goes on", x.commit(), 1);
        x.crash(0);
        x.recover();
        CHECKS.fails("behind a recover", STATE, x::recover);
    }

    private static void recoverAtAStop() {
        CHECKS.of("17: or at a stop (it is DOWN still).");
        // One word: store, flush, fence, store, flush, fence.
        for (int n = 0; n <= 6; n++) {
            WordShelf x = new WordShelf();
            x.stop(7, 0);
            CHECKS.fails("add", STATE, () -> x.add(0, 5));
            x.stop(n, Shelves.KEEPS_OLD);
            if (n < 6) {
                CHECKS.fails("recover, stop " + n, STATE, x::recover);
                CHECKS.looks("down still", x, 1, 0, -1, -1);
                CHECKS.is("another crash", x.look(7), 2);
                CHECKS.is("the stop is gone", x.look(8), -1);
                CHECKS.fails("no change", STATE, () -> x.add(0, 1));
            }
            CHECKS.is("recover behind " + n, x.recover(), 1);
            CHECKS.looks("up", x, 0, 0, 0, 0);
            CHECKS.is("counter", x.counter(0), 0);
        }
    }

    private static void recoverCounts() {
        CHECKS.of("17: how many words were set back.");
        CHECKS.is("none", Shelves.down().recover(), 0);
        WordShelf x = new WordShelf();
        x.stop(4, Shelves.KEEPS_OLD);
        CHECKS.fails("the count is not stored yet", STATE, () -> x.add(0, 5));
        CHECKS.is("none", x.recover(), 0);
        WordShelf y = Shelves.withAllWordsChanged();
        y.stop(74, 0);
        CHECKS.fails("none is stored yet", STATE, y::commit);
        CHECKS.is("all, though each has its old value", y.recover(), 31);
    }

    private static void wordOfNone() {
        CHECKS.of("18: IndexOutOfBoundsException if there is none such.");
        for (WordShelf x : new WordShelf[] {new WordShelf(), Shelves.down()}) {
            for (boolean kept : new boolean[] {false, true}) {
                CHECKS.is("the first", x.word(0, kept), 0);
                CHECKS.is("the last", x.word(111, kept), 0);
                CHECKS.fails("one too large", INDEX, () -> x.word(112, kept));
                for (int w : Shelves.NO_INDEX) {
                    CHECKS.fails("word " + w, INDEX, () -> x.word(w, kept));
                }
            }
        }
    }

    private static void looseOfNone() {
        CHECKS.of("19: NONE if there is no such word.");
        for (WordShelf x : new WordShelf[] {new WordShelf(), Shelves.down()}) {
            CHECKS.is("the first", x.loose(0), 0);
            CHECKS.is("the last", x.loose(111), 0);
            CHECKS.is("one too large", x.loose(112), -1);
            for (int w : Shelves.NO_INDEX) {
                CHECKS.is("word " + w, x.loose(w), -1);
            }
        }
    }

    private static void lookOfAnyOther() {
        CHECKS.of("20: NONE for any other which.");
        for (WordShelf x : new WordShelf[] {Shelves.withMap(1), Shelves.down()}) {
            CHECKS.is("one too large", x.look(9), -1);
            for (int which : Shelves.NO_INDEX) {
                CHECKS.is("which " + which, x.look(which), -1);
            }
        }
    }

    private static void lookWhenDown() {
        CHECKS.of("20: (2 and 3: NONE if DOWN)");
        WordShelf x = Shelves.withAllWordsChanged();
        x.commit();
        x.begin();
        CHECKS.looks("up", x, 0, 1, 7, 8, 95, 14, 4, 0, -1);
        x.crash(0);
        CHECKS.looks("down", x, 1, 0, -1, -1, 95, 14, 4, 1, -1);
        x.recover();
        CHECKS.looks("up again", x, 0, 0, 7, 8, 95, 14, 4, 1, -1);
    }

    private static void lookAtNoStop() {
        CHECKS.of("20: 8: steps to the stop, NONE if there is none.");
        WordShelf x = new WordShelf();
        CHECKS.is("none", x.look(8), -1);
        x.stop(0, 0);
        CHECKS.is("one with no step left", x.look(8), 0);
        CHECKS.fails("met", STATE, () -> x.add(0, 1));
        CHECKS.is("none again", x.look(8), -1);
    }

    private static void auditOfAFullShelf() {
        CHECKS.of("21: 0, or .. word 4 is not 0 .. 7, or 5 not 0 .. 8, word 14 is not 0 .. 8");
        for (int first = 0; first < 8; first++) {
            WordShelf x = Shelves.withQueue(first, 8);
            CHECKS.is("first " + first + ", full", x.audit(), 0);
        }
        for (int pairs = 0; pairs <= 8; pairs++) {
            WordShelf x = Shelves.withMap(pairs);
            CHECKS.is(pairs + " pairs", x.audit(), 0);
            x.cut(10);
            CHECKS.is("one less than " + pairs, x.audit(), 0);
        }
    }

    private static void auditOfKeys() {
        CHECKS.of("21: 2 .. the keys do not rise");
        // A second pair: words 14, 16 and 24; the number of pairs alone is kept new, so the keys are 10 and 0.
        WordShelf x = Shelves.withMap(1);
        stopInData(x, Op.ofLongs("put", 20, 2000), 3, 1, 0, 0);
        CHECKS.words("pairs and keys", x, 14, 2, 10, 0);
        CHECKS.is("falling keys", x.audit(), 2);
        WordShelf y = Shelves.withMap(8);
        // A cut of 70 moves 80 down: words 14, 21 and 29; the number of pairs is kept old.
        stopInData(y, Op.ofLongs("cut", 70, 0), 3, 0, 1, 1);
        CHECKS.words("last keys", y, 14, 8, 10, 20, 30, 40, 50, 60, 80, 80);
        CHECKS.is("equal keys, the last two of eight", y.audit(), 2);
        y.recover();
        CHECKS.is("set back", y.audit(), 0);
        WordShelf z = Shelves.withMap(1);
        z.put(Long.MIN_VALUE, 1);
        z.put(Long.MAX_VALUE, 2);
        CHECKS.is("the least and the most key rise", z.audit(), 0);
    }

    private static void auditOfTheLog() {
        CHECKS.of("21: 3 word 40 is not 0.");
        WordShelf x = new WordShelf();
        x.stop(5, Shelves.KEEPS_OLD);
        CHECKS.fails("add", STATE, () -> x.add(0, 1));
        CHECKS.is("0 is kept", x.audit(), 0);
        x.recover();
        x.stop(5, Shelves.KEEPS_NEW);
        CHECKS.fails("add", STATE, () -> x.add(0, 1));
        CHECKS.is("1 is kept", x.audit(), 3);
        x.recover();
        CHECKS.is("0 again", x.audit(), 0);
    }

    private static void auditFirstOfThese() {
        CHECKS.of("21: the first of these that holds");
        WordShelf x = Shelves.withMap(1);
        stopInData(x, Op.ofLongs("put", 20, 2000), 3, 1, 0, 0);
        CHECKS.is("word 40 is not 0 either", x.word(40, false), 3);
        CHECKS.is("2 before 3", x.audit(), 2);
    }

    /** Stops this change behind its stores in so many words, each keeping its old (0) or new (1) value. */
    private static void stopInData(WordShelf x, Op change, int words, int... choices) {
        int logLines = (words + 3) / 4;
        x.stop(2 * words + logLines + 1 + 3 + words, seedOf(choices));
        CHECKS.same(change.toString(), change.madeOn(x), STATE.getName());
    }

    private static int seedOf(int... choices) {
        int seed = 0;
        while (!Arrays.equals(Shelves.drawn(seed, choices.length), choices)) {
            seed++;
        }
        return seed;
    }
}

/** One method a promise: ordinary inputs, the document's edges, and wrong inputs, worked out by hand. */
public final class PromisesTest {
    private static final Checks CHECKS = new Checks();
    private static final Class<IllegalStateException> STATE = IllegalStateException.class;
    private static final Class<IndexOutOfBoundsException> INDEX = IndexOutOfBoundsException.class;
    private static final Class<UnsupportedOperationException> REFUSED = UnsupportedOperationException.class;
    // What a commit of one word takes: 2 stores, flush, fence; then three times store, flush, fence.
    private static final int ONE_WORD_STEPS = 13;

    public static void main(String[] args) {
        newObject();
        begin();
        commit();
        commitSteps();
        commitOfAllWords();
        abort();
        add();
        push();
        pop();
        put();
        cut();
        next();
        counter();
        queued();
        freeze();
        frozen();
        crash();
        crashSeeds();
        stop();
        stopBeforeEachStep();
        recover();
        recoverStopped();
        word();
        loose();
        look();
        audit();
        auditWhenDown();
        CHECKS.end();
    }

    private static void newObject() {
        WordShelf x = new WordShelf();
        CHECKS.looks("1 new", x, 0, 0, 0, 0, 0, 0, 0, 0, -1);
        CHECKS.words("1 new", x, 0, new long[112]);
        for (int c = 0; c < 4; c++) {
            CHECKS.is("1 counter", x.counter(c), 0);
        }
        CHECKS.is("1 audit", x.audit(), 0);
        CHECKS.fails("1 queued", INDEX, () -> x.queued(0));
        CHECKS.fails("1 next", INDEX, () -> x.next(Long.MIN_VALUE, true));
        CHECKS.fails("1 frozen", INDEX, () -> x.frozen(0, true, 0));
        CHECKS.fails("1 frozen", INDEX, () -> x.frozen(1, true, 0));
        WordShelf other = new WordShelf();
        other.add(0, 1);
        CHECKS.is("1 objects share nothing", x.counter(0), 0);
    }

    private static void begin() {
        WordShelf x = new WordShelf();
        x.begin();
        CHECKS.is("2 look", x.look(1), 1);
        CHECKS.fails("2 begin twice", STATE, x::begin);
        CHECKS.is("2 look", x.look(1), 1);
        x.add(0, 4);
        x.push(5);
        x.put(6, 7);
        CHECKS.is("2 seen", x.counter(0), 4);
        CHECKS.is("2 seen", x.queued(0), 5);
        CHECKS.is("2 seen", x.next(0, true), 6);
        CHECKS.looks("2 no steps yet", x, 0, 1, 1, 1, 0, 0, 0, 0, -1);
        CHECKS.words("2 not in the memory", x, 0, new long[31]);
        x.commit();
        x.begin();
        CHECKS.is("2 begin again", x.look(1), 1);
        CHECKS.fails("2 begin down", STATE, () -> Shelves.down().begin());
    }

    private static void commit() {
        WordShelf x = new WordShelf();
        CHECKS.fails("3 commit without begin", STATE, x::commit);
        x.begin();
        CHECKS.is("3 nothing", x.commit(), 0);
        CHECKS.looks("3 nothing", x, 0, 0, 0, 0, 0, 0, 0, 0, -1);
        x.begin();
        x.add(0, 5);
        x.add(0, -5);
        CHECKS.is("3 back to the old value", x.commit(), 0);
        CHECKS.is("3 no stores", x.look(4), 0);
        CHECKS.fails("3 commit twice", STATE, x::commit);
        x.begin();
        x.add(3, 7);
        x.push(8);
        CHECKS.is("3 words 3, 5 and 6", x.commit(), 3);
        CHECKS.is("3 ended", x.look(1), 0);
        CHECKS.words("3 log", x, 40, 0, 0, 0, 0, 0, 0, 0, 0, 3, 0, 5, 0, 6, 0, 0, 0);
        CHECKS.fails("3 commit down", STATE, () -> Shelves.down().commit());
        x.begin();
        x.add(0, 1);
        x.stop(4, Shelves.KEEPS_OLD);
        CHECKS.fails("3 commit at a stop", STATE, x::commit);
        CHECKS.looks("3 commit at a stop", x, 1, 0, -1, -1);
        x.recover();
        CHECKS.is("3 nothing of it", x.counter(0), 0);
        CHECKS.is("3 but the earlier", x.counter(3), 7);
    }

    private static void commitSteps() {
        WordShelf x = new WordShelf();
        x.stop(1000, 0);
        x.add(1, 9);
        CHECKS.is("3 steps of one word", 1000 - x.look(8), ONE_WORD_STEPS);
        CHECKS.looks("3 steps of one word", x, 0, 0, 0, 0, 5, 4, 4, 0);
        x.begin();
        x.add(1, 1);
        x.put(5, 6);
        CHECKS.is("3 four words", x.commit(), 4);
        // Words 1 (line 0), 14, 15 (line 1), 23 (line 2): a log of one line, three lines of data.
        CHECKS.looks("3 steps of four words", x, 0, 0, 0, 1, 5 + 14, 4 + 6, 4 + 4, 0);
        CHECKS.words("3 log of old values", x, 48, 1, 9, 14, 0, 15, 0, 23, 0);
        x.add(2, 1);
        CHECKS.words("3 log, the rest stays", x, 48, 2, 0, 14, 0, 15, 0, 23, 0);
    }

    private static void commitOfAllWords() {
        WordShelf x = new WordShelf();
        x.begin();
        for (int c = 0; c < 4; c++) {
            x.add(c, c + 1);
        }
        for (int i = 1; i <= 8; i++) {
            x.push(i);
        }
        x.pop();
        for (int i = 1; i <= 8; i++) {
            x.put(i * 10, i * 100);
        }
        CHECKS.is("3 all words", x.commit(), 31);
        // Log lines 6 to 13, line 5, data lines 0 to 3, line 5.
        CHECKS.looks("3 all words", x, 0, 0, 7, 8, 62 + 1 + 31 + 1, 8 + 1 + 4 + 1, 4, 0, -1);
        CHECKS.words("3 all words", x, 0, 1, 2, 3, 4, 1, 7, 1, 2, 3, 4, 5, 6, 7, 8, 8,
                10, 20, 30, 40, 50, 60, 70, 80, 100, 200, 300, 400, 500, 600, 700, 800);
        CHECKS.words("3 end of the log", x, 106, 29, 0, 30, 0, 0, 0);
    }

    private static void abort() {
        WordShelf x = new WordShelf();
        CHECKS.fails("4 abort without begin", STATE, x::abort);
        x.add(0, 1);
        x.push(2);
        x.put(3, 4);
        int stores = x.look(4);
        x.begin();
        x.add(0, 10);
        x.pop();
        x.cut(3);
        x.put(9, 9);
        x.abort();
        CHECKS.is("4 ended", x.look(1), 0);
        CHECKS.is("4 no stores", x.look(4), stores);
        CHECKS.is("4 counter", x.counter(0), 1);
        CHECKS.is("4 queue", x.queued(0), 2);
        CHECKS.is("4 map", x.next(0, false), 4);
        CHECKS.fails("4 map", INDEX, () -> x.next(4, false));
        CHECKS.fails("4 abort twice", STATE, x::abort);
        CHECKS.fails("4 abort down", STATE, () -> Shelves.down().abort());
        x.begin();
        CHECKS.is("4 nothing left of it", x.commit(), 0);
    }

    private static void add() {
        WordShelf x = new WordShelf();
        CHECKS.is("5 add", x.add(0, 5), 5);
        CHECKS.is("5 add", x.add(0, -8), -3);
        CHECKS.is("5 add to the last", x.add(3, Long.MAX_VALUE), Long.MAX_VALUE);
        CHECKS.is("5 add wraps", x.add(3, 1), Long.MIN_VALUE);
        CHECKS.is("5 add wraps back", x.add(3, -1), Long.MAX_VALUE);
        CHECKS.words("5 add", x, 0, -3, 0, 0, Long.MAX_VALUE);
        int stores = x.look(4);
        CHECKS.is("5 add of 0", x.add(1, 0), 0);
        CHECKS.is("5 add of 0 stores nothing", x.look(4), stores);
        CHECKS.fails("5 add(4)", INDEX, () -> x.add(4, 1));
        for (int c : Shelves.NO_INDEX) {
            CHECKS.fails("5 add(" + c + ")", INDEX, () -> x.add(c, 1));
            CHECKS.fails("5 add(" + c + ") down", STATE, () -> Shelves.down().add(c, 1));
        }
        CHECKS.fails("5 add down", STATE, () -> Shelves.down().add(0, 1));
        x.stop(0, 0);
        CHECKS.fails("5 wrong add before a stop", INDEX, () -> x.add(4, 1));
        CHECKS.is("5 the stop stays", x.look(8), 0);
        CHECKS.is("5 add of 0 before a stop", x.add(1, 0), 0);
        CHECKS.fails("5 add at a stop", STATE, () -> x.add(1, 1));
        CHECKS.is("5 down", x.look(0), 1);
    }

    private static void push() {
        WordShelf x = new WordShelf();
        for (int i = 1; i <= 8; i++) {
            CHECKS.is("6 push", x.push(i * 11L), i);
        }
        CHECKS.words("6 ring", x, 4, 0, 8, 11, 22, 33, 44, 55, 66, 77, 88, 0);
        x.stop(0, 0);
        CHECKS.fails("6 push on a full queue", REFUSED, () -> x.push(9));
        CHECKS.is("6 no step", x.look(8), 0);
        x.stop(1000, 0);
        x.pop();
        x.pop();
        CHECKS.is("6 push round", x.push(Long.MIN_VALUE), 7);
        CHECKS.words("6 ring", x, 4, 2, 7, Long.MIN_VALUE, 22, 33);
        CHECKS.is("6 push round", x.push(-1), 8);
        CHECKS.words("6 ring", x, 4, 2, 8, Long.MIN_VALUE, -1, 33);
        CHECKS.fails("6 push down", STATE, () -> Shelves.down().push(1));
        WordShelf y = new WordShelf();
        y.stop(0, 0);
        CHECKS.fails("6 push at a stop", STATE, () -> y.push(1));
        WordShelf z = new WordShelf();
        z.begin();
        for (int i = 0; i < 8; i++) {
            z.push(i);
        }
        CHECKS.fails("6 push on a queue full by the transaction", REFUSED, () -> z.push(1));
        z.abort();
        CHECKS.is("6 push behind the abort", z.push(1), 1);
    }

    private static void pop() {
        WordShelf x = new WordShelf();
        CHECKS.fails("7 pop of none", REFUSED, x::pop);
        x.push(5);
        x.push(-6);
        CHECKS.is("7 pop", x.pop(), 5);
        CHECKS.words("7 the word stays", x, 4, 1, 1, 5, -6);
        CHECKS.is("7 pop", x.pop(), -6);
        x.stop(0, 0);
        CHECKS.fails("7 pop of none", REFUSED, x::pop);
        CHECKS.is("7 no step", x.look(8), 0);
        x.stop(1000, 0);
        for (int i = 0; i < 20; i++) {
            x.push(i);
            CHECKS.is("7 pop round", x.pop(), i);
            CHECKS.is("7 first place", x.word(4, false), (3 + i) % 8);
        }
        CHECKS.fails("7 pop down", STATE, () -> Shelves.down().pop());
        x.push(1);
        x.stop(0, 0);
        CHECKS.fails("7 pop at a stop", STATE, x::pop);
        x.recover();
        CHECKS.is("7 still there", x.pop(), 1);
    }

    private static void put() {
        WordShelf x = new WordShelf();
        CHECKS.is("8 put", x.put(5, 50), 1);
        CHECKS.is("8 put in front", x.put(Long.MIN_VALUE, 1), 2);
        CHECKS.is("8 put behind", x.put(Long.MAX_VALUE, 2), 3);
        CHECKS.is("8 put between", x.put(0, -3), 4);
        CHECKS.is("8 put over", x.put(5, 55), 4);
        CHECKS.words("8 pairs", x, 14, 4, Long.MIN_VALUE, 0, 5, Long.MAX_VALUE, 0);
        CHECKS.words("8 numbers", x, 23, 1, -3, 55, 2, 0);
        int stores = x.look(4);
        CHECKS.is("8 put the same", x.put(5, 55), 4);
        CHECKS.is("8 nothing stored", x.look(4), stores);
        for (int i = 0; i < 4; i++) {
            CHECKS.is("8 put", x.put(10 + i, i), 5 + i);
        }
        x.stop(0, 0);
        CHECKS.fails("8 put in a full map", REFUSED, () -> x.put(6, 6));
        CHECKS.is("8 no step", x.look(8), 0);
        x.stop(1000, 0);
        CHECKS.is("8 put over in a full map", x.put(13, 99), 8);
        CHECKS.words("8 full", x, 14, 8, Long.MIN_VALUE, 0, 5, 10, 11, 12, 13, Long.MAX_VALUE,
                1, -3, 55, 0, 1, 2, 99, 2);
        CHECKS.fails("8 put down", STATE, () -> Shelves.down().put(1, 1));
        x.stop(0, 0);
        CHECKS.fails("8 put at a stop", STATE, () -> x.put(13, 98));
        x.recover();
        CHECKS.is("8 nothing of it", x.next(13, false), 99);
    }

    private static void cut() {
        WordShelf x = new WordShelf();
        CHECKS.is("9 cut of none", x.cut(0), false);
        for (int i = 1; i <= 8; i++) {
            x.put(i, i * 10);
        }
        CHECKS.is("9 cut the last", x.cut(8), true);
        CHECKS.words("9 the last words stay", x, 14, 7, 1, 2, 3, 4, 5, 6, 7, 8, 10, 20, 30, 40, 50, 60, 70, 80);
        CHECKS.is("9 what stays there is no key", x.cut(8), false);
        CHECKS.is("9 cut the first", x.cut(1), true);
        CHECKS.words("9 moved down", x, 14, 6, 2, 3, 4, 5, 6, 7, 7, 8, 20, 30, 40, 50, 60, 70, 70, 80);
        CHECKS.is("9 cut in the middle", x.cut(4), true);
        CHECKS.words("9 moved down", x, 14, 5, 2, 3, 5, 6, 7, 7, 7, 8, 20, 30, 50, 60, 70, 70, 70, 80);
        x.stop(0, 0);
        CHECKS.is("9 no such key", x.cut(4), false);
        CHECKS.is("9 no step", x.look(8), 0);
        CHECKS.fails("9 cut at a stop", STATE, () -> x.cut(5));
        CHECKS.fails("9 cut down", STATE, () -> x.cut(5));
        CHECKS.fails("9 cut of none down", STATE, () -> x.cut(4));
        x.recover();
        CHECKS.is("9 still there", x.cut(5), true);
    }

    private static void next() {
        WordShelf x = new WordShelf();
        CHECKS.fails("10 next of none", INDEX, () -> x.next(0, true));
        x.put(0, 7);
        CHECKS.fails("10 next of none", INDEX, () -> x.next(1, true));
        x.put(-4, 40);
        x.put(6, 60);
        CHECKS.is("10 least", x.next(Long.MIN_VALUE, true), -4);
        CHECKS.is("10 least", x.next(Long.MIN_VALUE, false), 40);
        CHECKS.is("10 equal", x.next(-4, true), -4);
        CHECKS.is("10 above", x.next(-3, true), 0);
        CHECKS.is("10 above", x.next(-3, false), 7);
        CHECKS.is("10 last", x.next(6, false), 60);
        CHECKS.fails("10 next of none", INDEX, () -> x.next(7, true));
        CHECKS.fails("10 next of none", INDEX, () -> x.next(Long.MAX_VALUE, false));
        x.begin();
        x.put(Long.MAX_VALUE, 3);
        CHECKS.is("10 in a transaction", x.next(7, true), Long.MAX_VALUE);
        x.cut(Long.MAX_VALUE);
        CHECKS.fails("10 cut in a transaction", INDEX, () -> x.next(7, true));
        x.crash(0);
        CHECKS.fails("10 next down", STATE, () -> x.next(0, true));
        CHECKS.fails("10 next of none down", STATE, () -> x.next(7, true));
    }

    private static void counter() {
        WordShelf x = new WordShelf();
        for (int c = 0; c < 4; c++) {
            x.add(c, 10 + c);
        }
        for (int c = 0; c < 4; c++) {
            CHECKS.is("11 counter", x.counter(c), 10 + c);
        }
        x.begin();
        x.add(2, 1);
        CHECKS.is("11 in a transaction", x.counter(2), 13);
        CHECKS.fails("11 counter(4)", INDEX, () -> x.counter(4));
        for (int c : Shelves.NO_INDEX) {
            CHECKS.fails("11 counter(" + c + ")", INDEX, () -> x.counter(c));
            CHECKS.fails("11 counter(" + c + ") down", STATE, () -> Shelves.down().counter(c));
        }
        CHECKS.fails("11 counter down", STATE, () -> Shelves.down().counter(0));
    }

    private static void queued() {
        WordShelf x = new WordShelf();
        for (int i = 0; i < 8; i++) {
            x.push(i);
        }
        for (int i = 0; i < 5; i++) {
            x.pop();
            x.push(8 + i);
        }
        for (int i = 0; i < 8; i++) {
            CHECKS.is("12 queued round the ring", x.queued(i), 5 + i);
        }
        CHECKS.fails("12 queued(8)", INDEX, () -> x.queued(8));
        x.pop();
        CHECKS.fails("12 queued(7)", INDEX, () -> x.queued(7));
        for (int i : Shelves.NO_INDEX) {
            CHECKS.fails("12 queued(" + i + ")", INDEX, () -> x.queued(i));
            CHECKS.fails("12 queued(" + i + ") down", STATE, () -> Shelves.down().queued(i));
        }
        x.begin();
        x.push(99);
        CHECKS.is("12 in a transaction", x.queued(7), 99);
        x.crash(0);
        CHECKS.fails("12 queued down", STATE, () -> x.queued(0));
        x.recover();
        CHECKS.is("12 queued back", x.queued(0), 6);
        CHECKS.fails("12 queued back", INDEX, () -> x.queued(7));
    }

    private static void freeze() {
        WordShelf x = new WordShelf();
        x.add(0, 1);
        x.freeze(0);
        x.add(0, 1);
        x.freeze(1);
        CHECKS.is("13 first", x.frozen(0, true, 0), 1);
        CHECKS.is("13 second", x.frozen(1, true, 0), 2);
        x.add(0, 1);
        x.freeze(0);
        CHECKS.is("13 in place of another", x.frozen(0, true, 0), 3);
        x.begin();
        x.add(0, 10);
        x.put(4, 5);
        x.freeze(1);
        x.abort();
        CHECKS.is("13 with a transaction's changes", x.frozen(1, true, 0), 13);
        CHECKS.is("13 with a transaction's changes", x.frozen(1, false, 4), 5);
        int stores = x.look(4);
        CHECKS.fails("13 freeze(2)", INDEX, () -> x.freeze(2));
        for (int s : Shelves.NO_INDEX) {
            CHECKS.fails("13 freeze(" + s + ")", INDEX, () -> x.freeze(s));
            CHECKS.fails("13 freeze(" + s + ") down", STATE, () -> Shelves.down().freeze(s));
        }
        CHECKS.is("13 no steps", x.look(4), stores);
        CHECKS.fails("13 freeze down", STATE, () -> Shelves.down().freeze(0));
    }

    private static void frozen() {
        WordShelf x = new WordShelf();
        x.freeze(1);
        CHECKS.is("14 empty", x.frozen(1, true, 3), 0);
        CHECKS.fails("14 key of none", INDEX, () -> x.frozen(1, false, 0));
        CHECKS.fails("14 not taken", INDEX, () -> x.frozen(0, true, 0));
        for (int c = 0; c < 4; c++) {
            x.add(c, 10 + c);
        }
        x.put(Long.MAX_VALUE, 1);
        x.put(2, 20);
        x.put(7, 70);
        x.freeze(0);
        x.cut(2);
        x.put(7, 71);
        x.add(3, 100);
        CHECKS.is("14 key", x.frozen(0, false, 2), 20);
        CHECKS.is("14 key", x.frozen(0, false, 7), 70);
        CHECKS.is("14 key", x.frozen(0, false, Long.MAX_VALUE), 1);
        for (int c = 0; c < 4; c++) {
            CHECKS.is("14 counter", x.frozen(0, true, c), 10 + c);
        }
        CHECKS.fails("14 no such key", INDEX, () -> x.frozen(0, false, 3));
        for (long c : new long[] {-1, 4, 1L << 32, Long.MAX_VALUE, Long.MIN_VALUE}) {
            CHECKS.fails("14 no counter " + c, INDEX, () -> x.frozen(0, true, c));
        }
        CHECKS.fails("14 no snapshot 2", INDEX, () -> x.frozen(2, true, 0));
        for (int s : Shelves.NO_INDEX) {
            CHECKS.fails("14 no snapshot " + s, INDEX, () -> x.frozen(s, true, 0));
        }
        x.crash(0);
        CHECKS.fails("14 none down", INDEX, () -> x.frozen(0, true, 0));
        x.recover();
        CHECKS.fails("14 none behind a crash", INDEX, () -> x.frozen(0, true, 0));
        CHECKS.fails("14 none behind a crash", INDEX, () -> x.frozen(1, true, 0));
    }

    private static void crash() {
        WordShelf x = new WordShelf();
        x.add(0, 5);
        x.freeze(0);
        x.begin();
        x.add(0, 1);
        x.stop(3, 0);
        x.crash(12345);
        CHECKS.looks("15 down", x, 1, 0, -1, -1, 5, 4, 4, 1, 3);
        CHECKS.words("15 kept", x, 0, 5);
        CHECKS.fails("15 crash down", STATE, () -> x.crash(1));
        CHECKS.is("15 crashes", x.look(7), 1);
        CHECKS.is("15 recover", x.recover(), 0);
        CHECKS.looks("15 up", x, 0, 0, 0, 0, 5, 4, 4, 1, 3);
        CHECKS.is("15 counter", x.counter(0), 5);
        CHECKS.fails("15 the stop stayed", STATE, () -> x.add(0, 1));
        CHECKS.is("15 crashes", x.look(7), 2);
    }

    private static void crashSeeds() {
        long[] old = {3, 0, 0, 0, 0, 0};
        long[] stored = {1, 7, 2, 8, 3, 9};
        for (int seed : new int[] {0, 1, 3, -1, 77777, Integer.MIN_VALUE, Integer.MAX_VALUE}) {
            WordShelf x = new WordShelf();
            x.add(1, 7);
            x.add(2, 8);
            x.add(3, 9);
            x.begin();
            x.add(1, 1);
            x.add(2, 1);
            x.add(3, 1);
            x.stop(6, seed);
            CHECKS.fails("15 seed " + seed, STATE, x::commit);
            // The rule of the document, on longs, so that no sign is in the way.
            long state = seed;
            for (int i = 0; i < 6; i++) {
                state = (state * 1103515245L + 12345L) & 0xFFFFFFFFL;
                long due = (state / 65536) % 2 == 1 ? stored[i] : old[i];
                CHECKS.words("15 seed " + seed, x, 48 + i, due);
            }
            CHECKS.words("15 the rest", x, 0, 0, 7, 8, 9);
        }
        WordShelf y = new WordShelf();
        y.stop(1, Shelves.KEEPS_OLD);
        CHECKS.fails("15 seed 1", STATE, () -> y.push(4));
        CHECKS.words("15 seed 1 keeps the kept value", y, 48, 0);
        WordShelf z = new WordShelf();
        z.stop(1, Shelves.KEEPS_NEW);
        CHECKS.fails("15 seed 3", STATE, () -> z.push(4));
        CHECKS.words("15 seed 3 keeps the loose value", z, 48, 5);
    }

    private static void stop() {
        WordShelf x = new WordShelf();
        CHECKS.is("16 below 0", x.stop(-1, 1), false);
        CHECKS.is("16 below 0", x.stop(Integer.MIN_VALUE, 1), false);
        CHECKS.is("16 none", x.look(8), -1);
        CHECKS.is("16 stop", x.stop(Integer.MAX_VALUE, 1), true);
        CHECKS.is("16 stop", x.look(8), Integer.MAX_VALUE);
        CHECKS.is("16 in place of another", x.stop(ONE_WORD_STEPS, 1), true);
        CHECKS.is("16 refused", x.stop(-5, 1), false);
        CHECKS.is("16 the other stays", x.look(8), ONE_WORD_STEPS);
        CHECKS.is("16 just before", x.add(0, 2), 2);
        CHECKS.is("16 no step left", x.look(8), 0);
        CHECKS.is("16 reading is no step", x.counter(0), 2);
        CHECKS.fails("16 the next step", STATE, () -> x.add(0, 2));
        CHECKS.looks("16 gone", x, 1, 0, -1, -1, 5, 4, 4, 1, -1);
        CHECKS.is("16 stop down", x.stop(3, 1), true);
        CHECKS.is("16 stop down", x.look(8), 3);
        CHECKS.is("16 recover without steps", x.recover(), 0);
        CHECKS.is("16 stop stays", x.look(8), 3);
        CHECKS.is("16 at once", x.stop(0, 1), true);
        x.begin();
        x.add(0, 1);
        CHECKS.is("16 a change in a transaction is no step", x.look(0), 0);
        CHECKS.fails("16 the commit is", STATE, x::commit);
        x.recover();
        CHECKS.is("16 gone behind it", x.add(0, 1), 3);
    }

    private static void stopBeforeEachStep() {
        // Of a commit of one word: S S F E, S F E, S F E, S F E.
        String steps = "SSFESFESFESFE";
        int stores = 0;
        int flushes = 0;
        int fences = 0;
        for (int n = 0; n < steps.length(); n++) {
            WordShelf x = new WordShelf();
            x.stop(n, Shelves.KEEPS_OLD);
            CHECKS.fails("16 stop " + n, STATE, () -> x.add(2, 6));
            CHECKS.looks("16 stop " + n, x, 1, 0, -1, -1, stores, flushes, fences, 1, -1);
            stores += steps.charAt(n) == 'S' ? 1 : 0;
            flushes += steps.charAt(n) == 'F' ? 1 : 0;
            fences += steps.charAt(n) == 'E' ? 1 : 0;
        }
    }

    private static void recover() {
        WordShelf x = new WordShelf();
        CHECKS.fails("17 recover up", STATE, x::recover);
        x.add(0, 1);
        x.crash(9);
        CHECKS.is("17 nothing to set back", x.recover(), 0);
        CHECKS.looks("17 no steps", x, 0, 0, 0, 0, 5, 4, 4, 1, -1);
        CHECKS.fails("17 recover twice", STATE, x::recover);
        // Two words; the stop is behind their stores: 4 stores, flush, fence, store, flush, fence, 2 stores.
        x.begin();
        x.add(0, 1);
        x.add(3, 4);
        x.stop(11, 3);
        CHECKS.fails("17 commit", STATE, x::commit);
        CHECKS.words("17 log count", x, 40, 2);
        int stores = x.look(4);
        int flushes = x.look(5);
        int fences = x.look(6);
        CHECKS.is("17 two words set back", x.recover(), 2);
        CHECKS.looks("17 steps", x, 0, 0, 0, 0, stores + 3, flushes + 2, fences + 2, 2, -1);
        CHECKS.words("17 as before", x, 0, 1, 0, 0, 0);
        CHECKS.words("17 log count", x, 40, 0);
        CHECKS.is("17 counter", x.counter(0), 1);
        CHECKS.is("17 counter", x.counter(3), 0);
        recoverFromKeptCount();
    }

    private static void recoverFromKeptCount() {
        // The stop is before the last flush, of the log's count: 0 is loose, 1 is kept.
        WordShelf x = new WordShelf();
        x.stop(11, Shelves.KEEPS_OLD);
        CHECKS.fails("17 add", STATE, () -> x.add(0, 5));
        CHECKS.words("17 there, but", x, 0, 5);
        CHECKS.is("17 set back", x.recover(), 1);
        CHECKS.is("17 nothing", x.counter(0), 0);
        WordShelf y = new WordShelf();
        y.stop(11, Shelves.KEEPS_NEW);
        CHECKS.fails("17 add", STATE, () -> y.add(0, 5));
        CHECKS.is("17 not set back", y.recover(), 0);
        CHECKS.is("17 all", y.counter(0), 5);
    }

    private static void recoverStopped() {
        // Two words: 2 stores, flush, fence, store, flush, fence.
        for (int n = 0; n < 7; n++) {
            WordShelf x = new WordShelf();
            x.begin();
            x.add(0, 1);
            x.add(3, 4);
            x.stop(11, Shelves.KEEPS_NEW);
            CHECKS.fails("17 commit", STATE, x::commit);
            x.stop(n, Shelves.KEEPS_OLD);
            CHECKS.fails("17 recover at stop " + n, STATE, x::recover);
            CHECKS.is("17 down still", x.look(0), 1);
            CHECKS.is("17 crashes", x.look(7), 2);
            CHECKS.is("17 recover again", x.recover(), 2);
            CHECKS.is("17 counter", x.counter(0), 0);
            CHECKS.is("17 counter", x.counter(3), 0);
        }
        WordShelf y = new WordShelf();
        y.begin();
        y.add(0, 1);
        y.add(3, 4);
        y.stop(11, Shelves.KEEPS_NEW);
        CHECKS.fails("17 commit", STATE, y::commit);
        // The last entry goes first: the store of word 3 is done, that of word 0 is not.
        CHECKS.words("17 both or one", y, 3, y.word(3, true));
        long zero = y.word(0, true);
        y.stop(1, Shelves.KEEPS_NEW);
        CHECKS.fails("17 recover", STATE, y::recover);
        CHECKS.words("17 last entry first", y, 0, zero, 0, 0, 0);
        y.stop(7, 0);
        CHECKS.is("17 just enough steps", y.recover(), 2);
        CHECKS.is("17 no step left", y.look(8), 0);
    }

    private static void word() {
        WordShelf x = new WordShelf();
        x.push(6);
        x.begin();
        x.push(7);
        CHECKS.is("18 value", x.word(5, false), 1);
        CHECKS.is("18 kept", x.word(5, true), 1);
        CHECKS.is("18 last", x.word(111, false), 0);
        CHECKS.is("18 last", x.word(111, true), 0);
        CHECKS.fails("18 word(112)", INDEX, () -> x.word(112, false));
        CHECKS.fails("18 word(112)", INDEX, () -> x.word(112, true));
        for (int w : Shelves.NO_INDEX) {
            CHECKS.fails("18 word(" + w + ")", INDEX, () -> x.word(w, false));
            CHECKS.fails("18 word(" + w + ")", INDEX, () -> x.word(w, true));
        }
        x.crash(0);
        CHECKS.is("18 down", x.word(6, false), 6);
        CHECKS.is("18 down", x.word(6, true), 6);
        CHECKS.fails("18 word(112) down", INDEX, () -> x.word(112, true));
    }

    private static void loose() {
        WordShelf x = new WordShelf();
        x.add(0, 1);
        x.stop(6, 1);
        CHECKS.fails("19 add", STATE, () -> x.add(0, 1));
        for (int w = 0; w < 112; w++) {
            CHECKS.is("19 loose", x.loose(w), 0);
        }
        CHECKS.is("19 loose(112)", x.loose(112), -1);
        for (int w : Shelves.NO_INDEX) {
            CHECKS.is("19 loose(" + w + ")", x.loose(w), -1);
        }
    }

    private static void look() {
        WordShelf x = new WordShelf();
        x.push(1);
        x.push(2);
        x.put(3, 4);
        CHECKS.looks("20 look", x, 0, 0, 2, 1);
        x.begin();
        x.pop();
        x.put(4, 4);
        x.put(5, 4);
        x.stop(9, 0);
        CHECKS.looks("20 in a transaction", x, 0, 1, 1, 3);
        CHECKS.is("20 to the stop", x.look(8), 9);
        x.crash(0);
        CHECKS.looks("20 down", x, 1, 0, -1, -1);
        CHECKS.is("20 crashes", x.look(7), 1);
        x.recover();
        CHECKS.looks("20 up", x, 0, 0, 2, 1);
        CHECKS.is("20 look(9)", x.look(9), -1);
        for (int which : Shelves.NO_INDEX) {
            CHECKS.is("20 look(" + which + ")", x.look(which), -1);
        }
    }

    private static void audit() {
        WordShelf x = new WordShelf();
        for (int i = 0; i < 8; i++) {
            x.push(-i);
            x.put(8 - i, i);
        }
        CHECKS.is("21 full", x.audit(), 0);
        for (int i = 0; i < 7; i++) {
            x.pop();
            x.cut(i + 1);
            CHECKS.is("21 what is behind the last key does not count", x.audit(), 0);
        }
        x.begin();
        x.put(0, 0);
        CHECKS.is("21 of the memory", x.audit(), 0);
    }

    private static void auditWhenDown() {
        WordShelf x = new WordShelf();
        x.stop(5, Shelves.KEEPS_NEW);
        CHECKS.fails("21 add", STATE, () -> x.add(0, 1));
        CHECKS.is("21 word 40 is 1", x.audit(), 3);
        x.recover();
        CHECKS.is("21 set back", x.audit(), 0);
        // A map of 4 and 7, and 4 is cut: words 14, 15 and 23 go to 1, 7 and 70.
        // The stop is behind the stores; a seed that keeps 14's old and 15's new value has the keys 7, 7.
        WordShelf y = new WordShelf();
        y.put(4, 40);
        y.put(7, 70);
        y.stop(14, seedKeeping(0, 1));
        CHECKS.fails("21 cut", STATE, () -> y.cut(4));
        CHECKS.words("21 two equal keys", y, 14, 2, 7, 7);
        CHECKS.is("21 keys do not rise", y.audit(), 2);
        CHECKS.is("21 set back", y.recover(), 3);
        CHECKS.is("21 set back", y.audit(), 0);
    }

    /** The least seed by which the first loose words keep their old (0) or new (1) values. */
    private static int seedKeeping(int... choices) {
        for (int seed = 0; seed < 1000; seed++) {
            int x = seed;
            boolean fits = true;
            for (int choice : choices) {
                x = x * 1103515245 + 12345;
                fits = fits && (x >>> 16) % 2 == choice;
            }
            if (fits) {
                return seed;
            }
        }
        throw new IllegalStateException("no such seed");
    }
}

/**
 * Counters, a queue and a map on a memory that forgets what was not flushed and fenced.
 * Every change goes through an undo log, so that a crash at any step leaves all of it or nothing.
 */
public final class WordShelf {
    public static final int NONE = -1;

    private static final int WORDS = 112;
    private static final int LINE_WORDS = 8;
    private static final int LINES = WORDS / LINE_WORDS;
    // Each word is stored once, then fenced or lost in a crash, before it is stored again.
    private static final int LOOSE_ROOM = 1;

    private static final int COUNTERS = 4;
    private static final int QUEUE_FIRST = 4;
    private static final int QUEUE_SIZE = 5;
    private static final int RING = 6;
    private static final int QUEUE_ROOM = 8;
    private static final int PAIRS = 14;
    private static final int KEYS = 15;
    private static final int NUMBERS = 23;
    private static final int MAP_ROOM = 8;
    private static final int SHELF_WORDS = 31;

    private static final int LOG_COUNT = 40;
    private static final int LOG = 48;
    private static final int LOG_ROOM = (WORDS - LOG) / 2;

    private static final int SNAPSHOTS = 2;

    private final Memory memory = new Memory();
    // Outside of a transaction, and while the shelf is up, this is equal to the memory's words.
    private final Image image = new Image();
    private final Image[] snapshots = {new Image(), new Image()};
    private final boolean[] taken = new boolean[SNAPSHOTS];
    private final int[] changed = new int[SHELF_WORDS];
    private boolean down;
    private boolean inTransaction;
    private int stepsToStop = NONE;
    private int stopSeed;

    public WordShelf() {
    }

    public void begin() throws IllegalStateException {
        requireUp();
        if (inTransaction) {
            throw new IllegalStateException("there is a transaction");
        }
        inTransaction = true;
    }

    public int commit() throws IllegalStateException {
        requireTransaction();
        int count = settle();
        inTransaction = false;
        return count;
    }

    public void abort() throws IllegalStateException {
        requireTransaction();
        inTransaction = false;
        image.load(memory);
    }

    public long add(int c, long d) throws IllegalStateException, IndexOutOfBoundsException {
        requireUp();
        requireCounter(c);
        image.raise(c, d);
        settleAlone();
        return image.counterAt(c);
    }

    public int push(long v) throws IllegalStateException, UnsupportedOperationException {
        requireUp();
        if (image.queueSize() >= QUEUE_ROOM) {
            throw new UnsupportedOperationException("the queue is full");
        }
        image.append(v);
        settleAlone();
        return image.queueSize();
    }

    public long pop() throws IllegalStateException, UnsupportedOperationException {
        requireUp();
        if (image.queueSize() == 0) {
            throw new UnsupportedOperationException("the queue is empty");
        }
        long first = image.queuedAt(0);
        image.dropFirst();
        settleAlone();
        return first;
    }

    public int put(long key, long number) throws IllegalStateException, UnsupportedOperationException {
        requireUp();
        if (image.pairs() >= MAP_ROOM && !image.hasKey(key)) {
            throw new UnsupportedOperationException("the map is full");
        }
        image.setPair(key, number);
        settleAlone();
        return image.pairs();
    }

    public boolean cut(long key) throws IllegalStateException {
        requireUp();
        if (!image.hasKey(key)) {
            return false;
        }
        image.dropPair(key);
        settleAlone();
        return true;
    }

    public long next(long from, boolean key) throws IllegalStateException, IndexOutOfBoundsException {
        requireUp();
        int i = image.placeOf(from);
        if (i >= image.pairs()) {
            throw new IndexOutOfBoundsException("no such key");
        }
        return key ? image.keyAt(i) : image.numberAt(i);
    }

    public long counter(int c) throws IllegalStateException, IndexOutOfBoundsException {
        requireUp();
        requireCounter(c);
        return image.counterAt(c);
    }

    public long queued(int i) throws IllegalStateException, IndexOutOfBoundsException {
        requireUp();
        if (i < 0 || i >= image.queueSize()) {
            throw new IndexOutOfBoundsException("no such value");
        }
        return image.queuedAt(i);
    }

    public void freeze(int s) throws IllegalStateException, IndexOutOfBoundsException {
        requireUp();
        if (!isSnapshot(s)) {
            throw new IndexOutOfBoundsException("no such snapshot");
        }
        snapshots[s].copy(image);
        taken[s] = true;
    }

    public long frozen(int s, boolean counter, long k) throws IndexOutOfBoundsException {
        if (!isSnapshot(s) || !taken[s]) {
            throw new IndexOutOfBoundsException("no such snapshot");
        }
        Image snapshot = snapshots[s];
        if (counter) {
            requireCounter(k);
            return snapshot.counterAt((int) k);
        }
        if (!snapshot.hasKey(k)) {
            throw new IndexOutOfBoundsException("no such key");
        }
        return snapshot.numberAt(snapshot.placeOf(k));
    }

    public void crash(int seed) throws IllegalStateException {
        requireUp();
        fallDown(seed);
    }

    public boolean stop(int n, int seed) {
        if (n < 0) {
            return false;
        }
        stepsToStop = n;
        stopSeed = seed;
        return true;
    }

    public int recover() throws IllegalStateException {
        if (!down) {
            throw new IllegalStateException("the shelf is up");
        }
        int count = bounded(memory.valueAt(LOG_COUNT), LOG_ROOM);
        if (count > 0) {
            setBack(count);
        }
        image.load(memory);
        down = false;
        return count;
    }

    public long word(int w, boolean kept) throws IndexOutOfBoundsException {
        if (!isWord(w)) {
            throw new IndexOutOfBoundsException("no such word");
        }
        return kept ? memory.keptAt(w) : memory.valueAt(w);
    }

    public int loose(int w) {
        return isWord(w) ? memory.looseCountAt(w) : NONE;
    }

    public int look(int which) {
        switch (which) {
            case 0: return down ? 1 : 0;
            case 1: return inTransaction ? 1 : 0;
            case 2: return down ? NONE : image.queueSize();
            case 3: return down ? NONE : image.pairs();
            case 4: return memory.stores;
            case 5: return memory.flushes;
            case 6: return memory.fences;
            case 7: return memory.crashes;
            case 8: return stepsToStop;
            default: return NONE;
        }
    }

    public int audit() {
        if (!isWithin(memory.valueAt(QUEUE_FIRST), QUEUE_ROOM - 1)
                || !isWithin(memory.valueAt(QUEUE_SIZE), QUEUE_ROOM)) {
            return 1;
        }
        if (!isWithin(memory.valueAt(PAIRS), MAP_ROOM) || !keysRise()) {
            return 2;
        }
        return memory.valueAt(LOG_COUNT) != 0 ? 3 : 0;
    }

    private boolean keysRise() {
        int pairs = bounded(memory.valueAt(PAIRS), MAP_ROOM);
        for (int i = 1; i < pairs; i++) {
            if (memory.valueAt(KEYS + i - 1) >= memory.valueAt(KEYS + i)) {
                return false;
            }
        }
        return true;
    }

    private void requireUp() {
        if (down) {
            throw new IllegalStateException("the shelf is down");
        }
    }

    private void requireTransaction() {
        requireUp();
        if (!inTransaction) {
            throw new IllegalStateException("there is no transaction");
        }
    }

    private static void requireCounter(long c) {
        if (!isWithin(c, COUNTERS - 1)) {
            throw new IndexOutOfBoundsException("no such counter");
        }
    }

    private static boolean isSnapshot(int s) {
        return isWithin(s, SNAPSHOTS - 1);
    }

    private static boolean isWord(long w) {
        return isWithin(w, WORDS - 1);
    }

    private static boolean isWithin(long n, int most) {
        return n >= 0 && n <= most;
    }

    /** Keeps a number read from a word fit for an index, whatever the word holds. */
    private static int bounded(long n, int most) {
        return (int) Math.max(0L, Math.min((long) most, n));
    }

    private void settleAlone() {
        if (!inTransaction) {
            settle();
        }
    }

    /** Brings the image into the memory, by the steps of a commit: how many words were changed. */
    private int settle() {
        int count = findChanged();
        if (count == 0) {
            return 0;
        }
        for (int e = 0; e < count; e++) {
            storeWord(LOG + 2 * e, changed[e]);
            storeWord(LOG + 2 * e + 1, memory.valueAt(changed[e]));
        }
        flushAndFence();
        storeWord(LOG_COUNT, count);
        flushAndFence();
        for (int e = 0; e < count; e++) {
            storeWord(changed[e], image.words[changed[e]]);
        }
        flushAndFence();
        storeWord(LOG_COUNT, 0);
        flushAndFence();
        return count;
    }

    private int findChanged() {
        int count = 0;
        for (int w = 0; w < SHELF_WORDS; w++) {
            if (image.words[w] != memory.valueAt(w)) {
                changed[count] = w;
                count++;
            }
        }
        return count;
    }

    private void setBack(int count) {
        for (int e = count - 1; e >= 0; e--) {
            long address = memory.valueAt(LOG + 2 * e);
            storeWord(bounded(address, WORDS - 1), memory.valueAt(LOG + 2 * e + 1));
        }
        flushAndFence();
        storeWord(LOG_COUNT, 0);
        flushAndFence();
    }

    private void storeWord(int w, long v) {
        takeStep();
        memory.store(w, v);
    }

    private void flushAndFence() {
        for (int line = 0; line < LINES; line++) {
            if (memory.isUnflushed(line)) {
                takeStep();
                memory.flush(line);
            }
        }
        takeStep();
        memory.fence();
    }

    private void takeStep() {
        if (stepsToStop == 0) {
            stepsToStop = NONE;
            fallDown(stopSeed);
            throw new IllegalStateException("stopped");
        }
        if (stepsToStop > 0) {
            stepsToStop--;
        }
    }

    private void fallDown(int seed) {
        memory.forget(seed);
        down = true;
        inTransaction = false;
        for (int s = 0; s < SNAPSHOTS; s++) {
            taken[s] = false;
        }
    }

    /** The words with their kept and loose values, and how many steps of each kind were done. */
    private static final class Memory {
        private final long[] values = new long[WORDS];
        private final long[] kept = new long[WORDS];
        private final long[] looseValues = new long[WORDS * LOOSE_ROOM];
        private final int[] looseCounts = new int[WORDS];
        // Lines with a store behind their last flush; every flush is of such lines.
        private final boolean[] unflushed = new boolean[LINES];
        private final boolean[] flushed = new boolean[LINES];
        private int stores;
        private int flushes;
        private int fences;
        private int crashes;

        private long valueAt(int w) {
            return isWord(w) ? values[w] : 0;
        }

        private long keptAt(int w) {
            return isWord(w) ? kept[w] : 0;
        }

        private int looseCountAt(int w) {
            return isWord(w) ? looseCounts[w] : 0;
        }

        private boolean isUnflushed(int line) {
            return isWithin(line, LINES - 1) && unflushed[line];
        }

        private void store(int w, long v) {
            if (!isWord(w)) {
                return;
            }
            stores++;
            values[w] = v;
            unflushed[w / LINE_WORDS] = true;
            if (looseCounts[w] < LOOSE_ROOM) {
                looseValues[w * LOOSE_ROOM + looseCounts[w]] = v;
                looseCounts[w]++;
            }
        }

        private void flush(int line) {
            if (!isWithin(line, LINES - 1)) {
                return;
            }
            flushes++;
            flushed[line] = true;
            unflushed[line] = false;
        }

        private void fence() {
            fences++;
            for (int line = 0; line < LINES; line++) {
                if (flushed[line]) {
                    keepLine(line);
                    flushed[line] = false;
                }
            }
        }

        private void keepLine(int line) {
            int start = line * LINE_WORDS;
            for (int w = start; w < start + LINE_WORDS; w++) {
                kept[w] = values[w];
                looseCounts[w] = 0;
            }
        }

        private void forget(int seed) {
            crashes++;
            int x = seed;
            for (int w = 0; w < WORDS; w++) {
                if (looseCounts[w] > 0) {
                    x = x * 1103515245 + 12345;
                    int r = (x >>> 16) % (looseCounts[w] + 1);
                    kept[w] = r == 0 ? kept[w] : looseValues[w * LOOSE_ROOM + r - 1];
                    looseCounts[w] = 0;
                }
                values[w] = kept[w];
            }
            for (int line = 0; line < LINES; line++) {
                unflushed[line] = false;
                flushed[line] = false;
            }
        }
    }

    /** The shelf's own words as the calls see them: with a transaction's changes, or as frozen. */
    private static final class Image {
        private final long[] words = new long[SHELF_WORDS];

        private void load(Memory memory) {
            System.arraycopy(memory.values, 0, words, 0, SHELF_WORDS);
        }

        private void copy(Image other) {
            System.arraycopy(other.words, 0, words, 0, SHELF_WORDS);
        }

        private long counterAt(int c) {
            return isWithin(c, COUNTERS - 1) ? words[c] : 0;
        }

        private void raise(int c, long d) {
            if (isWithin(c, COUNTERS - 1)) {
                words[c] += d;
            }
        }

        private int queueSize() {
            return bounded(words[QUEUE_SIZE], QUEUE_ROOM);
        }

        private int ringWord(int i) {
            return RING + (int) Math.floorMod(words[QUEUE_FIRST] + i, (long) QUEUE_ROOM);
        }

        private long queuedAt(int i) {
            return words[ringWord(i)];
        }

        private void append(long v) {
            int size = queueSize();
            words[ringWord(size)] = v;
            words[QUEUE_SIZE] = size + 1;
        }

        private void dropFirst() {
            words[QUEUE_FIRST] = ringWord(1) - RING;
            words[QUEUE_SIZE] = queueSize() - 1;
        }

        private int pairs() {
            return bounded(words[PAIRS], MAP_ROOM);
        }

        private long keyAt(int i) {
            return isWithin(i, MAP_ROOM - 1) ? words[KEYS + i] : 0;
        }

        private long numberAt(int i) {
            return isWithin(i, MAP_ROOM - 1) ? words[NUMBERS + i] : 0;
        }

        /** How many keys are below this one, which is where it stands or would stand. */
        private int placeOf(long key) {
            int pairs = pairs();
            int i = 0;
            while (i < pairs && words[KEYS + i] < key) {
                i++;
            }
            return i;
        }

        private boolean hasKey(long key) {
            int i = placeOf(key);
            return i < pairs() && keyAt(i) == key;
        }

        private void setPair(long key, long number) {
            int i = placeOf(key);
            if (!hasKey(key)) {
                openPlace(i);
            }
            if (isWithin(i, MAP_ROOM - 1)) {
                words[KEYS + i] = key;
                words[NUMBERS + i] = number;
            }
        }

        private void openPlace(int i) {
            int behind = pairs() - i;
            if (pairs() >= MAP_ROOM || i < 0 || behind < 0) {
                return;
            }
            System.arraycopy(words, KEYS + i, words, KEYS + i + 1, behind);
            System.arraycopy(words, NUMBERS + i, words, NUMBERS + i + 1, behind);
            words[PAIRS] = pairs() + 1;
        }

        private void dropPair(long key) {
            int i = placeOf(key);
            int behind = pairs() - i - 1;
            if (behind < 0) {
                return;
            }
            System.arraycopy(words, KEYS + i + 1, words, KEYS + i, behind);
            System.arraycopy(words, NUMBERS + i + 1, words, NUMBERS + i, behind);
            words[PAIRS] = pairs() - 1;
        }
    }
}

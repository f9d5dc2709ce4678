import java.util.ArrayList;
import java.util.List;
import java.util.Map;
import java.util.TreeMap;
import java.util.TreeSet;

/**
 * The document once more, written another way: steps are data that is listed first and done then,
 * the map is a TreeMap that is written out, loose values are lists. Slow, and only for tests.
 */
final class Model {
    private static final int STORE = 0;
    private static final int FLUSH = 1;
    private static final int FENCE = 2;

    private final long[] value = new long[112];
    private final long[] kept = new long[112];
    private final List<List<Long>> loose = new ArrayList<>();
    private final TreeSet<Integer> flushed = new TreeSet<>();
    private final int[] done = new int[3];
    private int crashes;
    private boolean down;
    // What the transaction sees of the words 0 to 30, or null.
    private long[] draft;
    private final List<long[]> snapshots = new ArrayList<>(List.of(new long[0], new long[0]));
    private int stop = -1;
    private int stopSeed;

    Model() {
        for (int w = 0; w < 112; w++) {
            loose.add(new ArrayList<>());
        }
    }

    /** The answer of a call, a boolean being 1 or 0 and a void 0. */
    long answer(Op op) {
        switch (op.name) {
            case "begin": return begin();
            case "commit": return commit();
            case "abort": return abort();
            case "add": return add(op.i, op.a);
            case "push": return push(op.a);
            case "pop": return pop();
            case "put": return put(op.a, op.b);
            case "cut": return cut(op.a);
            case "next": return next(op.a, op.flag);
            case "counter": return counter(op.i);
            case "queued": return queued(op.i);
            case "freeze": return freeze(op.i);
            case "frozen": return frozen(op.i, op.flag, op.a);
            case "crash": return crash(op.j);
            case "stop": return stop(op.i, op.j);
            case "recover": return recover();
            case "word": return word(op.i, op.flag);
            case "loose": return op.i < 0 || op.i > 111 ? -1 : loose.get(op.i).size();
            case "look": return look(op.i);
            case "audit": return audit();
            default: throw new AssertionError(op.name);
        }
    }

    private long[] seen() {
        if (draft != null) {
            return draft;
        }
        long[] now = new long[31];
        System.arraycopy(value, 0, now, 0, 31);
        return now;
    }

    private static TreeMap<Long, Long> pairsOf(long[] words) {
        TreeMap<Long, Long> pairs = new TreeMap<>();
        for (int i = 0; i < words[14]; i++) {
            pairs.put(words[15 + i], words[23 + i]);
        }
        return pairs;
    }

    private static void writePairs(TreeMap<Long, Long> pairs, long[] words) {
        int i = 0;
        for (Map.Entry<Long, Long> pair : pairs.entrySet()) {
            words[15 + i] = pair.getKey();
            words[23 + i] = pair.getValue();
            i++;
        }
        words[14] = pairs.size();
    }

    private void up() {
        if (down) {
            throw new IllegalStateException();
        }
    }

    private long begin() {
        up();
        if (draft != null) {
            throw new IllegalStateException();
        }
        draft = seen();
        return 0;
    }

    private long commit() {
        up();
        if (draft == null) {
            throw new IllegalStateException();
        }
        long n = bring(draft);
        draft = null;
        return n;
    }

    private long abort() {
        up();
        if (draft == null) {
            throw new IllegalStateException();
        }
        draft = null;
        return 0;
    }

    private void changed(long[] now) {
        if (draft == null) {
            bring(now);
        }
    }

    private long add(int c, long d) {
        up();
        if (c < 0 || c > 3) {
            throw new IndexOutOfBoundsException();
        }
        long[] now = seen();
        now[c] = now[c] + d;
        changed(now);
        return now[c];
    }

    private long push(long v) {
        up();
        long[] now = seen();
        if (now[5] == 8) {
            throw new UnsupportedOperationException();
        }
        now[6 + (int) ((now[4] + now[5]) % 8)] = v;
        now[5] += 1;
        changed(now);
        return now[5];
    }

    private long pop() {
        up();
        long[] now = seen();
        if (now[5] == 0) {
            throw new UnsupportedOperationException();
        }
        long first = now[6 + (int) now[4]];
        now[4] = (now[4] + 1) % 8;
        now[5] -= 1;
        changed(now);
        return first;
    }

    private long put(long key, long number) {
        up();
        long[] now = seen();
        TreeMap<Long, Long> pairs = pairsOf(now);
        pairs.put(key, number);
        if (pairs.size() > 8) {
            throw new UnsupportedOperationException();
        }
        writePairs(pairs, now);
        changed(now);
        return pairs.size();
    }

    private long cut(long key) {
        up();
        long[] now = seen();
        TreeMap<Long, Long> pairs = pairsOf(now);
        if (pairs.remove(key) == null) {
            return 0;
        }
        writePairs(pairs, now);
        changed(now);
        return 1;
    }

    private long next(long from, boolean key) {
        up();
        Map.Entry<Long, Long> pair = pairsOf(seen()).ceilingEntry(from);
        if (pair == null) {
            throw new IndexOutOfBoundsException();
        }
        return key ? pair.getKey() : pair.getValue();
    }

    private long counter(int c) {
        up();
        if (c < 0 || c > 3) {
            throw new IndexOutOfBoundsException();
        }
        return seen()[c];
    }

    private long queued(int i) {
        up();
        long[] now = seen();
        if (i < 0 || i >= now[5]) {
            throw new IndexOutOfBoundsException();
        }
        return now[6 + (int) ((now[4] + i) % 8)];
    }

    private long freeze(int s) {
        up();
        if (s != 0 && s != 1) {
            throw new IndexOutOfBoundsException();
        }
        snapshots.set(s, seen().clone());
        return 0;
    }

    private long frozen(int s, boolean counter, long k) {
        if (s < 0 || s > 1 || snapshots.get(s).length == 0) {
            throw new IndexOutOfBoundsException();
        }
        long[] then = snapshots.get(s);
        if (counter) {
            if (k < 0 || k > 3) {
                throw new IndexOutOfBoundsException();
            }
            return then[(int) k];
        }
        Long number = pairsOf(then).get(k);
        if (number == null) {
            throw new IndexOutOfBoundsException();
        }
        return number;
    }

    private long crash(int seed) {
        up();
        fall(seed);
        return 0;
    }

    private long stop(int n, int seed) {
        if (n < 0) {
            return 0;
        }
        stop = n;
        stopSeed = seed;
        return 1;
    }

    private long recover() {
        if (!down) {
            throw new IllegalStateException();
        }
        int n = (int) value[40];
        if (n > 0) {
            List<long[]> steps = new ArrayList<>();
            List<long[]> group = new ArrayList<>();
            for (int e = n - 1; e >= 0; e--) {
                group.add(new long[] {STORE, value[48 + 2 * e], value[49 + 2 * e]});
            }
            listGroup(steps, group);
            listGroup(steps, List.of(new long[] {STORE, 40, 0}));
            run(steps);
        }
        down = false;
        return n;
    }

    private int bring(long[] now) {
        List<long[]> log = new ArrayList<>();
        List<long[]> data = new ArrayList<>();
        for (int w = 0; w <= 30; w++) {
            if (now[w] != value[w]) {
                int e = data.size();
                log.add(new long[] {STORE, 48 + 2 * e, w});
                log.add(new long[] {STORE, 49 + 2 * e, value[w]});
                data.add(new long[] {STORE, w, now[w]});
            }
        }
        int n = data.size();
        if (n > 0) {
            List<long[]> steps = new ArrayList<>();
            listGroup(steps, log);
            listGroup(steps, List.of(new long[] {STORE, 40, n}));
            listGroup(steps, data);
            listGroup(steps, List.of(new long[] {STORE, 40, 0}));
            run(steps);
        }
        return n;
    }

    private static void listGroup(List<long[]> steps, List<long[]> stores) {
        TreeSet<Long> lines = new TreeSet<>();
        for (long[] store : stores) {
            lines.add(store[1] / 8);
        }
        steps.addAll(stores);
        for (long line : lines) {
            steps.add(new long[] {FLUSH, line});
        }
        steps.add(new long[] {FENCE});
    }

    private void run(List<long[]> steps) {
        for (long[] step : steps) {
            if (stop == 0) {
                stop = -1;
                fall(stopSeed);
                throw new IllegalStateException();
            }
            if (stop > 0) {
                stop--;
            }
            done[(int) step[0]]++;
            if (step[0] == STORE) {
                value[(int) step[1]] = step[2];
                loose.get((int) step[1]).add(step[2]);
            } else if (step[0] == FLUSH) {
                flushed.add((int) step[1]);
            } else {
                fence();
            }
        }
    }

    private void fence() {
        for (int w = 0; w < 112; w++) {
            if (flushed.contains(w / 8)) {
                kept[w] = value[w];
                loose.get(w).clear();
            }
        }
        flushed.clear();
    }

    private void fall(int seed) {
        long x = seed & 0xFFFFFFFFL;
        for (int w = 0; w < 112; w++) {
            List<Long> choices = loose.get(w);
            if (!choices.isEmpty()) {
                x = (x * 1103515245L + 12345L) & 0xFFFFFFFFL;
                choices.add(0, kept[w]);
                kept[w] = choices.get((int) ((x >> 16) % choices.size()));
                choices.clear();
            }
            value[w] = kept[w];
        }
        flushed.clear();
        crashes++;
        down = true;
        draft = null;
        snapshots.set(0, new long[0]);
        snapshots.set(1, new long[0]);
    }

    private long word(int w, boolean keptOne) {
        if (w < 0 || w > 111) {
            throw new IndexOutOfBoundsException();
        }
        return keptOne ? kept[w] : value[w];
    }

    private long look(int which) {
        long[] all = {down ? 1 : 0, draft != null ? 1 : 0, down ? -1 : seen()[5], down ? -1 : seen()[14],
            done[STORE], done[FLUSH], done[FENCE], crashes, stop};
        return which < 0 || which >= all.length ? -1 : all[which];
    }

    private long audit() {
        if (value[4] < 0 || value[4] > 7 || value[5] < 0 || value[5] > 8) {
            return 1;
        }
        if (value[14] < 0 || value[14] > 8) {
            return 2;
        }
        for (int i = 0; i + 1 < value[14]; i++) {
            if (value[15 + i] >= value[16 + i]) {
                return 2;
            }
        }
        return value[40] == 0 ? 0 : 3;
    }
}

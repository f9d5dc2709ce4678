import java.util.ArrayList;
import java.util.List;

/** Shelves in the states that the edges need, each made by the fewest calls, and a picture of all that can be seen. */
final class Shelves {
    // Of one loose value, seed 1 keeps the kept one and seed 3 the loose one.
    static final int KEEPS_OLD = 1;
    static final int KEEPS_NEW = 3;
    static final int ROOM = 8;
    static final int[] NO_INDEX = {-1, -2, Integer.MIN_VALUE, Integer.MAX_VALUE};

    private Shelves() {
    }

    static WordShelf down() {
        WordShelf x = new WordShelf();
        x.crash(0);
        return x;
    }

    /** A queue whose first place is this one, of so many values: 100, 101, .. */
    static WordShelf withQueue(int first, int size) {
        WordShelf x = new WordShelf();
        for (int i = 0; i < first; i++) {
            x.push(-1);
            x.pop();
        }
        for (int i = 0; i < size; i++) {
            x.push(100 + i);
        }
        return x;
    }

    /** A map of so many pairs: 10 with 1000, 20 with 2000, .. */
    static WordShelf withMap(int pairs) {
        WordShelf x = new WordShelf();
        for (int i = 1; i <= pairs; i++) {
            x.put(10 * i, 1000 * i);
        }
        return x;
    }

    /** A transaction that gives each of the words 0 to 30 another value than 0, not yet committed. */
    static WordShelf withAllWordsChanged() {
        WordShelf x = new WordShelf();
        x.begin();
        for (int c = 0; c < 4; c++) {
            x.add(c, c + 1);
        }
        for (int i = 1; i <= ROOM; i++) {
            x.push(i);
        }
        x.pop();
        for (int i = 1; i <= ROOM; i++) {
            x.put(10 * i, 100 * i);
        }
        return x;
    }

    /** Every answer that only reads; some 400 calls, so that a run with one picture stays below 512. */
    static List<String> picture(WordShelf x) {
        List<Op> reads = new ArrayList<>();
        for (int w = 0; w < 112; w++) {
            reads.add(new Op("word", w, 0, 0, 0, false));
            reads.add(new Op("word", w, 0, 0, 0, true));
            reads.add(Op.ofInts("loose", w, 0));
        }
        for (int which = 0; which < 9; which++) {
            reads.add(Op.ofInts("look", which, 0));
        }
        reads.add(Op.of("audit"));
        for (int i = 0; i < ROOM; i++) {
            reads.add(Op.ofInts("counter", i, 0));
            reads.add(Op.ofInts("queued", i, 0));
            reads.add(new Op("next", 0, 0, 10 * i + 1, 0, true));
            reads.add(new Op("next", 0, 0, 10 * i + 1, 0, false));
        }
        for (int s = 0; s < 2; s++) {
            for (int c = 0; c < 4; c++) {
                reads.add(new Op("frozen", s, 0, c, 0, true));
                reads.add(new Op("frozen", s, 0, 10 * c + 10, 0, false));
            }
        }
        List<String> answers = new ArrayList<>();
        for (Op read : reads) {
            answers.add(read + " " + read.madeOn(x));
        }
        return answers;
    }

    /** What the picture shows otherwise than the due one, or nothing. */
    static String difference(List<String> got, List<String> due) {
        StringBuilder text = new StringBuilder();
        for (int i = 0; i < due.size(); i++) {
            if (!got.get(i).equals(due.get(i))) {
                text.append(got.get(i)).append(" for ").append(due.get(i)).append("; ");
            }
        }
        return text.toString();
    }

    /** The numbers 0 or 1 that a crash with this seed draws, worked out on longs so that no sign is in the way. */
    static int[] drawn(int seed, int count) {
        int[] numbers = new int[count];
        long state = seed;
        for (int i = 0; i < count; i++) {
            state = (state * 1103515245L + 12345L) & 0xFFFFFFFFL;
            numbers[i] = (int) ((state / 65536) % 2);
        }
        return numbers;
    }
}

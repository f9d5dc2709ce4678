import java.lang.reflect.Field;
import java.lang.reflect.Method;

/**
 * Sentences whose edges no run of calls reaches, since every call leaves the memory fenced and in bounds:
 * single steps are done, and words set, behind the public face.
 */
public final class InsideTest {
    private static final Checks CHECKS = new Checks();

    public static void main(String[] args) throws ReflectiveOperationException {
        storeWithoutFence();
        fenceKeepsFlushedLines();
        crashOfALooseWord();
        auditOfTheQueue();
        auditOfThePairs();
        auditOfTheLog();
        auditFirstOfThese();
        CHECKS.end();
    }

    private static Object memoryOf(WordShelf x) throws ReflectiveOperationException {
        Field field = WordShelf.class.getDeclaredField("memory");
        field.setAccessible(true);
        return field.get(x);
    }

    private static void step(WordShelf x, String name, Class<?>[] types, Object... arguments)
            throws ReflectiveOperationException {
        Object memory = memoryOf(x);
        Method method = memory.getClass().getDeclaredMethod(name, types);
        method.setAccessible(true);
        method.invoke(memory, arguments);
    }

    private static void store(WordShelf x, int w, long v) throws ReflectiveOperationException {
        step(x, "store", new Class<?>[] {int.class, long.class}, w, v);
    }

    private static void flush(WordShelf x, int line) throws ReflectiveOperationException {
        step(x, "flush", new Class<?>[] {int.class}, line);
    }

    private static void fence(WordShelf x) throws ReflectiveOperationException {
        step(x, "fence", new Class<?>[] {});
    }

    private static void set(WordShelf x, int w, long v) throws ReflectiveOperationException {
        Object memory = memoryOf(x);
        Field field = memory.getClass().getDeclaredField("values");
        field.setAccessible(true);
        ((long[]) field.get(memory))[w] = v;
    }

    private static void state(String what, WordShelf x, int w, long value, long kept, int loose) {
        CHECKS.is(what + ": value of " + w, x.word(w, false), value);
        CHECKS.is(what + ": kept of " + w, x.word(w, true), kept);
        CHECKS.is(what + ": loose of " + w, x.loose(w), loose);
    }

    private static void storeWithoutFence() throws ReflectiveOperationException {
        CHECKS.of("to STORE a value in a word: that is its value, and goes to the end of its loose ones.");
        WordShelf x = new WordShelf();
        store(x, 111, 5);
        state("stored", x, 111, 5, 0, 1);
        state("another word", x, 110, 0, 0, 0);
        CHECKS.looks("one store", x, 0, 0, 0, 0, 1, 0, 0, 0, -1);
    }

    private static void fenceKeepsFlushedLines() throws ReflectiveOperationException {
        CHECKS.of("A FENCE: of each word in a line that is flushed the value is kept, and it has no loose ones");
        WordShelf x = new WordShelf();
        int[] words = {7, 8, 15, 16};
        for (int w : words) {
            store(x, w, w);
        }
        fence(x);
        for (int w : words) {
            state("no line was flushed", x, w, w, 0, 1);
        }
        flush(x, 1);
        state("flushed, no fence yet", x, 8, 8, 0, 1);
        fence(x);
        state("the line before", x, 7, 7, 0, 1);
        state("the line's first word", x, 8, 8, 8, 0);
        state("the line's last word", x, 15, 15, 15, 0);
        state("the line behind", x, 16, 16, 0, 1);
        store(x, 8, 80);
        fence(x);
        state("flushed until the next fence alone", x, 8, 80, 8, 1);
    }

    private static void crashOfALooseWord() throws ReflectiveOperationException {
        CHECKS.of("then all values are the kept ones, none are loose, no line is flushed");
        for (int seed : new int[] {Shelves.KEEPS_OLD, Shelves.KEEPS_NEW}) {
            WordShelf x = new WordShelf();
            store(x, 111, 5);
            flush(x, 13);
            x.crash(seed);
            long due = seed == Shelves.KEEPS_NEW ? 5 : 0;
            state("seed " + seed, x, 111, due, due, 0);
            store(x, 111, 6);
            fence(x);
            state("the line is not flushed any more", x, 111, 6, due, 1);
        }
    }

    private static void auditAfter(int w, long v, int due) throws ReflectiveOperationException {
        WordShelf x = new WordShelf();
        set(x, w, v);
        CHECKS.is("word " + w + " is " + v, x.audit(), due);
    }

    private static void auditOfTheQueue() throws ReflectiveOperationException {
        CHECKS.of("21: 1 word 4 is not 0 .. 7, or 5 not 0 .. 8");
        auditAfter(4, -1, 1);
        auditAfter(4, 0, 0);
        auditAfter(4, 7, 0);
        auditAfter(4, 8, 1);
        auditAfter(5, -1, 1);
        auditAfter(5, 0, 0);
        auditAfter(5, 8, 0);
        auditAfter(5, 9, 1);
        // Cut to an int these would be 0.
        auditAfter(4, 1L << 32, 1);
        auditAfter(5, 1L << 32, 1);
        auditAfter(4, Long.MIN_VALUE, 1);
        auditAfter(5, Long.MIN_VALUE, 1);
    }

    private static void auditOfThePairs() throws ReflectiveOperationException {
        CHECKS.of("21: 2 word 14 is not 0 .. 8, or the keys do not rise");
        auditAfter(14, -1, 2);
        auditAfter(14, 1, 0);
        auditAfter(14, 2, 2);
        auditAfter(14, 9, 2);
        auditAfter(14, 1L << 32, 2);
        auditAfter(14, Long.MIN_VALUE, 2);
        WordShelf x = Shelves.withMap(8);
        set(x, 14, 9);
        CHECKS.is("nine pairs, eight rising keys", x.audit(), 2);
        for (int i = 1; i < 8; i++) {
            WordShelf y = Shelves.withMap(8);
            set(y, 15 + i, 10 * i);
            CHECKS.is("key " + i + " is the one before it", y.audit(), 2);
            set(y, 15 + i, 10 * i + 1);
            CHECKS.is("key " + i + " is just above", y.audit(), 0);
        }
    }

    private static void auditOfTheLog() throws ReflectiveOperationException {
        CHECKS.of("21: 3 word 40 is not 0.");
        auditAfter(40, 1, 3);
        auditAfter(40, -1, 3);
        auditAfter(40, 1L << 32, 3);
    }

    private static void auditFirstOfThese() throws ReflectiveOperationException {
        CHECKS.of("21: the first of these that holds of the memory's values");
        WordShelf x = new WordShelf();
        set(x, 40, 1);
        CHECKS.is("3", x.audit(), 3);
        set(x, 14, 9);
        CHECKS.is("2 before 3", x.audit(), 2);
        set(x, 5, 9);
        CHECKS.is("1 before 2", x.audit(), 1);
        // Crashed, the values are the kept ones, all 0.
        x.crash(0);
        CHECKS.is("of the values", x.audit(), 0);
    }
}

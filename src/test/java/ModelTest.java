import java.util.Random;

/** Many mixed runs, the same ones each time, whose every answer must be the model's; all 112 words at the end. */
public final class ModelTest {
    private static final Checks CHECKS = new Checks();
    private static final int RUNS = 4000;
    // With the sweep of 112 words and 9 looks at the end, a run has the document's 512 calls.
    private static final int CALLS = 512 - 2 * 112 - 9;
    private static final long[] LONGS = {
        0, 1, -1, 4, 1L << 32, Long.MAX_VALUE, Long.MIN_VALUE, Integer.MAX_VALUE, Integer.MIN_VALUE};
    private static final String[] CHANGES = {"add", "push", "push", "pop", "put", "put", "put", "cut"};
    private static final String[] READS = {"next", "counter", "queued", "frozen", "word", "look", "audit", "loose"};

    public static void main(String[] args) {
        for (int run = 0; run < RUNS; run++) {
            oneRun(run);
        }
        CHECKS.end();
    }

    private static void oneRun(int run) {
        Random random = new Random(run);
        WordShelf x = new WordShelf();
        Model m = new Model();
        for (int call = 0; call < CALLS; call++) {
            compare(run, call, x, m, someCall(random, m));
        }
        for (int w = 0; w < 112; w++) {
            compare(run, CALLS, x, m, new Op("word", w, 0, 0, 0, false));
            compare(run, CALLS, x, m, new Op("word", w, 0, 0, 0, true));
        }
        for (int which = 0; which < 9; which++) {
            compare(run, CALLS, x, m, Op.ofInts("look", which, 0));
        }
    }

    private static void compare(int run, int call, WordShelf x, Model m, Op op) {
        CHECKS.same("run " + run + ", call " + call + ": " + op, op.madeOn(x), op.madeOn(m));
    }

    private static Op someCall(Random random, Model m) {
        boolean isDown = m.answer(Op.ofInts("look", 0, 0)) == 1;
        if (isDown && random.nextInt(3) == 0) {
            return Op.of("recover");
        }
        int kind = random.nextInt(100);
        if (kind < 50) {
            return withArguments(CHANGES[random.nextInt(CHANGES.length)], random);
        }
        if (kind < 75) {
            return withArguments(READS[random.nextInt(READS.length)], random);
        }
        if (kind < 87) {
            String[] names = {"begin", "begin", "commit", "abort", "freeze"};
            return withArguments(names[random.nextInt(names.length)], random);
        }
        if (kind < 97) {
            return Op.ofInts("stop", random.nextInt(80) - 2, random.nextInt());
        }
        return withArguments(random.nextBoolean() ? "crash" : "recover", random);
    }

    private static Op withArguments(String name, Random random) {
        return new Op(name, someIndex(name, random), random.nextInt(), someLong(random), someLong(random),
                random.nextBoolean());
    }

    private static int someIndex(String name, Random random) {
        if (random.nextInt(20) == 0) {
            return (int) LONGS[random.nextInt(LONGS.length)];
        }
        switch (name) {
            case "word": case "loose": return random.nextInt(114) - 1;
            case "queued": case "look": return random.nextInt(11) - 1;
            case "freeze": case "frozen": return random.nextInt(20) == 0 ? 2 : random.nextInt(2);
            default: return random.nextInt(20) == 0 ? 4 : random.nextInt(4);
        }
    }

    private static long someLong(Random random) {
        if (random.nextInt(10) == 0) {
            return LONGS[random.nextInt(LONGS.length)];
        }
        return random.nextInt(16);
    }
}

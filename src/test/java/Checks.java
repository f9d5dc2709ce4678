/** Counts and prints the answers that are not the due ones. */
final class Checks {
    private String sentence = "";
    private int wrong;
    private int done;

    interface Call {
        void make();
    }

    /** The sentence of the document that the next checks are of. */
    void of(String text) {
        sentence = "\"" + text + "\" ";
    }

    void same(String what, Object got, Object want) {
        done++;
        if (!want.equals(got)) {
            wrong++;
            System.out.println(sentence + what + " answered " + got + ", due is " + want);
        }
    }

    void is(String what, long got, long want) {
        same(what, got, want);
    }

    void is(String what, boolean got, boolean want) {
        same(what, got, want);
    }

    void fails(String what, Class<? extends RuntimeException> want, Call call) {
        String got = "nothing";
        try {
            call.make();
        } catch (RuntimeException e) {
            got = e.getClass().getName();
        }
        same(what + " throws", got, want.getName());
    }

    /** These words, from this one on, have these values, and they are the kept ones too. */
    void words(String what, WordShelf x, int from, long... due) {
        for (int i = 0; i < due.length; i++) {
            is(what + ": word(" + (from + i) + ", false)", x.word(from + i, false), due[i]);
            is(what + ": word(" + (from + i) + ", true)", x.word(from + i, true), due[i]);
        }
    }

    /** What look(0), look(1), .. answer, as far as they are given. */
    void looks(String what, WordShelf x, int... due) {
        for (int i = 0; i < due.length; i++) {
            is(what + ": look(" + i + ")", x.look(i), due[i]);
        }
    }

    /** The stores, flushes and fences that these calls take. */
    void steps(String what, WordShelf x, int stores, int flushes, int fences, Call call) {
        int[] before = {x.look(4), x.look(5), x.look(6)};
        call.make();
        is(what + ": stores", x.look(4) - before[0], stores);
        is(what + ": flushes", x.look(5) - before[1], flushes);
        is(what + ": fences", x.look(6) - before[2], fences);
    }

    /** Ends the program with exit code 1 if an answer was wrong. */
    void end() {
        System.out.println(wrong == 0 ? done + " answers are as due" : wrong + " answers are not as due");
        if (wrong != 0) {
            System.exit(1);
        }
    }
}

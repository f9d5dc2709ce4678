/** Counts and prints the answers that are not the due ones. */
final class Checks {
    private int wrong;
    private int done;

    interface Call {
        void make();
    }

    void same(String what, Object got, Object want) {
        done++;
        if (!want.equals(got)) {
            wrong++;
            System.out.println(what + " answered " + got + ", due is " + want);
        }
    }

    void is(String what, long got, long want) {
        same(what, got, want);
    }

    void is(String what, boolean got, boolean want) {
        same(what, got, want);
    }

    void fails(String what, Class<? extends RuntimeException> want, Call call) {
        String got = "nothing";
        try {
            call.make();
        } catch (RuntimeException e) {
            got = e.getClass().getName();
        }
        same(what + " throws", got, want.getName());
    }

    /** Ends the program with exit code 1 if an answer was wrong. */
    void end() {
        System.out.println(wrong == 0 ? done + " answers are as due" : wrong + " answers are not as due");
        if (wrong != 0) {
            System.exit(1);
        }
    }
}

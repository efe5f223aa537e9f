/** Counts and prints the calls of one test whose answer is not the one that is due. */
final class Check {
    /** A call of the desk; a boolean counts 1 or 0, a void call 0. */
    interface Call {
        long answer();
    }

    static final Class<IndexOutOfBoundsException> OUT_OF_BOUNDS = IndexOutOfBoundsException.class;
    static final Class<IllegalStateException> ILLEGAL_STATE = IllegalStateException.class;
    static final Class<IllegalArgumentException> ILLEGAL_ARGUMENT = IllegalArgumentException.class;
    static final Class<UnsupportedOperationException> UNSUPPORTED = UnsupportedOperationException.class;

    private int wrong = 0;

    void due(String call, long want, long got) {
        if (got != want) {
            wrong++;
            System.out.println(call + " answered " + got + ", due is " + want);
        }
    }

    void due(String call, boolean want, boolean got) {
        due(call, want ? 1 : 0, got ? 1 : 0);
    }

    void throwing(String call, Class<? extends RuntimeException> want, Call made) {
        try {
            long got = made.answer();
            wrong++;
            System.out.println(call + " answered " + got + ", due is " + want.getSimpleName());
        } catch (RuntimeException e) {
            if (e.getClass() != want) {
                wrong++;
                System.out.println(call + " threw " + e + ", due is " + want.getSimpleName());
            }
        }
    }

    /** What process() tells, in the order of its numbers. */
    void process(RendezvousDesk desk, int p, int... want) {
        for (int what = 0; what < want.length; what++) {
            due("process(" + p + ", " + what + ")", want[what], desk.process(p, what));
        }
    }

    /** The steps of one process, each with the answer that is due. */
    void steps(RendezvousDesk desk, int p, int... want) {
        for (int i = 0; i < want.length; i++) {
            due("step(" + p + "), number " + i + " of this row,", want[i], desk.step(p));
        }
    }

    void place(RendezvousDesk desk, int p, int want) {
        due("process(" + p + ", 3)", want, desk.process(p, 3));
    }

    void exitIfWrong() {
        if (wrong != 0) {
            System.out.println(wrong + " answers are not as due");
            System.exit(1);
        }
    }
}

import java.util.List;
import java.util.function.Supplier;
import java.util.function.ToLongFunction;

/** Counts and prints the calls of one test whose answer is not the one that is due. */
final class Check {
    /** A call of the desk; a boolean counts 1 or 0, a void call 0. */
    interface Call {
        long answer();
    }

    static final Class<IndexOutOfBoundsException> OUT_OF_BOUNDS = IndexOutOfBoundsException.class;
    static final Class<IllegalStateException> ILLEGAL_STATE = IllegalStateException.class;
    static final Class<IllegalArgumentException> ILLEGAL_ARGUMENT = IllegalArgumentException.class;
    static final Class<UnsupportedOperationException> UNSUPPORTED = UnsupportedOperationException.class;

    private int wrong = 0;

    void due(String call, long want, long got) {
        if (got != want) {
            wrong++;
            System.out.println(call + " answered " + got + ", due is " + want);
        }
    }

    void due(String call, boolean want, boolean got) {
        due(call, want ? 1 : 0, got ? 1 : 0);
    }

    void throwing(String call, Class<? extends RuntimeException> want, Call made) {
        try {
            long got = made.answer();
            wrong++;
            System.out.println(call + " answered " + got + ", due is " + want.getSimpleName());
        } catch (RuntimeException e) {
            if (e.getClass() != want) {
                wrong++;
                System.out.println(call + " threw " + e + ", due is " + want.getSimpleName());
            }
        }
    }

    /** The call throws, and a desk of the same history without the call shows the same ever after. */
    void refused(String call, Class<? extends RuntimeException> want, Supplier<RendezvousDesk> history,
            ToLongFunction<RendezvousDesk> made) {
        RendezvousDesk desk = history.get();
        throwing(call, want, () -> made.applyAsLong(desk));
        same("behind the refused " + call, Shown.of(history.get()), Shown.of(desk));
        RendezvousDesk again = history.get();
        throwing(call, want, () -> made.applyAsLong(again));
        same("behind the refused " + call, Shown.ticksFirst(history.get()), Shown.ticksFirst(again));
    }

    /** The cancel answers false, and nothing that calls show ever after is changed by it. */
    void cancelRefused(String call, int p, Supplier<RendezvousDesk> history) {
        RendezvousDesk desk = history.get();
        due(call, false, desk.cancel(p));
        same("behind the refused " + call, Shown.of(history.get()), Shown.of(desk));
        RendezvousDesk again = history.get();
        due(call, false, again.cancel(p));
        same("behind the refused " + call, Shown.ticksFirst(history.get()), Shown.ticksFirst(again));
    }

    /** Tells the first row in which the two differ. */
    void same(String when, List<String> want, List<String> got) {
        for (int i = 0; i < want.size() || i < got.size(); i++) {
            String due = i < want.size() ? want.get(i) : "nothing";
            String row = i < got.size() ? got.get(i) : "nothing";
            if (!due.equals(row)) {
                wrong++;
                System.out.println(when + ": " + row + ", due is: " + due);
                return;
            }
        }
    }

    /** What process() tells, in the order of its numbers. */
    void process(RendezvousDesk desk, int p, int... want) {
        for (int what = 0; what < want.length; what++) {
            due("process(" + p + ", " + what + ")", want[what], desk.process(p, what));
        }
    }

    /** The steps of one process, each with the answer that is due. */
    void steps(RendezvousDesk desk, int p, int... want) {
        for (int i = 0; i < want.length; i++) {
            due("step(" + p + "), number " + i + " of this row,", want[i], desk.step(p));
        }
    }

    void place(RendezvousDesk desk, int p, int want) {
        due("process(" + p + ", 3)", want, desk.process(p, 3));
    }

    /** The whole list of a channel: of each entry the process, the version and the guard. */
    void list(RendezvousDesk desk, int channel, int[]... want) {
        for (int i = 0; i < want.length; i++) {
            for (int what = 0; what < 3; what++) {
                due("waiting(" + channel + ", " + i + ", " + what + ")", want[i][what],
                        desk.waiting(channel, i, what));
            }
        }
        throwing("waiting(" + channel + ", " + want.length + ", 0)", OUT_OF_BOUNDS,
                () -> desk.waiting(channel, want.length, 0));
    }

    void exitIfWrong() {
        if (wrong != 0) {
            System.out.println(wrong + " answers are not as due");
            System.exit(1);
        }
    }
}

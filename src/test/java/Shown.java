import java.util.ArrayList;
import java.util.List;
import java.util.function.LongSupplier;

/**
 * All that calls show of a desk, and all that a fixed play of further calls shows of what no call
 * tells outright: the guards and ticks of the next offer, CLEAN, and the ticks gone by. Two desks of
 * the same history answer the same. For small desks, so that it stays within an object's 512 calls.
 */
final class Shown {
    private final RendezvousDesk desk;
    private final List<String> answers = new ArrayList<>();
    private final List<Integer> live = new ArrayList<>();

    private Shown(RendezvousDesk desk) {
        this.desk = desk;
    }

    static List<String> of(RendezvousDesk desk) {
        Shown shown = new Shown(desk);
        shown.look();
        shown.guardsAndOffers();
        shown.steps();
        shown.ticks();
        shown.ends();
        return shown.answers;
    }

    /** Ticks before the steps, so that offers are closed where they are. */
    static List<String> ticksFirst(RendezvousDesk desk) {
        Shown shown = new Shown(desk);
        shown.look();
        shown.ticks();
        shown.steps();
        shown.ends();
        return shown.answers;
    }

    private void look() {
        for (int what = 0; what <= 4; what++) {
            int of = what;
            note("count(" + of + ")", () -> desk.count(of));
        }
        for (int p = 0; p < 16; p++) {
            processes(p);
        }
        for (int c = 0; c < 8; c++) {
            entries(c);
        }
        pairs();
    }

    private void processes(int p) {
        boolean there = true;
        for (int what = 0; what <= 6 && there; what++) {
            int of = what;
            there = note("process(" + p + ", " + of + ")", () -> desk.process(p, of));
        }
        if (there) {
            live.add(p);
        }
    }

    private void entries(int channel) {
        boolean there = true;
        for (int i = 0; there && i <= 64; i++) {
            int at = i;
            for (int what = 0; what <= 2 && there; what++) {
                int of = what;
                there = note("waiting(" + channel + ", " + at + ", " + of + ")",
                        () -> desk.waiting(channel, at, of));
            }
        }
    }

    private void pairs() {
        boolean there = true;
        for (int k = 0; there && k <= 128; k++) {
            int at = k;
            for (int what = 0; what <= 4 && there; what++) {
                int of = what;
                there = note("pair(" + at + ", " + of + ")", () -> desk.pair(at, of));
            }
        }
    }

    private void guardsAndOffers() {
        for (int p : live) {
            note("timeout(" + p + ", 9)", () -> desk.timeout(p, 9));
            note("guard(" + p + ", 1, 3, 60, true)", () -> desk.guard(p, 1, 3, 60, true));
            note("offer(" + p + ")", () -> desk.offer(p));
        }
    }

    private void steps() {
        for (int i = 0; i < 8; i++) {
            for (int p : live) {
                note("step(" + p + ")", () -> desk.step(p));
            }
        }
    }

    private void ticks() {
        for (int i = 0; i < 4; i++) {
            note("tick()", desk::tick);
        }
    }

    private void ends() {
        note("run(1, 300)", () -> desk.run(1, 300));
        for (int p : live) {
            note("cancel(" + p + ")", () -> desk.cancel(p) ? 1 : 0);
            note("finish(" + p + ")", () -> desk.finish(p));
        }
        note("the pairs", () -> desk.count(2));
    }

    /** Whether the call answered. */
    private boolean note(String call, LongSupplier made) {
        try {
            answers.add(call + " answers " + made.getAsLong());
            return true;
        } catch (RuntimeException e) {
            answers.add(call + " throws " + e.getClass().getSimpleName());
            return false;
        }
    }
}

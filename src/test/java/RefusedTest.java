import java.util.LinkedHashMap;
import java.util.Map;
import java.util.function.Supplier;
import java.util.function.ToLongFunction;

/**
 * Behind a refused call nothing that another call shows has changed: every call with arguments at, below
 * and above its bounds, on desks of every kind, and whoever throws or answers that it did nothing is
 * compared with a desk of the same history without that call.
 */
public final class RefusedTest {
    private static final int[] PROCESSES = {Integer.MIN_VALUE, -1, 0, 1, 2, 5, 7, 14, 15, 16,
        Integer.MAX_VALUE};

    public static void main(String[] args) {
        Check check = new Check();
        Map<String, ToLongFunction<RendezvousDesk>> calls = calls();
        int refused = 0;
        for (Map.Entry<String, Supplier<RendezvousDesk>> history : histories().entrySet()) {
            for (Map.Entry<String, ToLongFunction<RendezvousDesk>> call : calls.entrySet()) {
                refused += compared(check, history.getValue(), call.getKey(), call.getValue(),
                        call.getKey() + ", " + history.getKey());
            }
        }
        check.due("enough were refused, of " + refused, true, refused > 2000);
        check.exitIfWrong();
    }

    /** How many refused calls were compared. */
    private static int compared(Check check, Supplier<RendezvousDesk> history, String name,
            ToLongFunction<RendezvousDesk> call, String when) {
        RendezvousDesk desk = history.get();
        RendezvousDesk again = history.get();
        if (!isRefused(desk, name, call) || !isRefused(again, name, call)) {
            return 0;
        }
        check.same(when, Shown.of(history.get()), Shown.of(desk));
        check.same(when, Shown.ticksFirst(history.get()), Shown.ticksFirst(again));
        return 1;
    }

    private static boolean isRefused(RendezvousDesk desk, String name,
            ToLongFunction<RendezvousDesk> call) {
        try {
            return call.applyAsLong(desk) == 0 && name.startsWith("cancel");
        } catch (RuntimeException e) {
            return true;
        }
    }

    private static Map<String, Supplier<RendezvousDesk>> histories() {
        Map<String, Supplier<RendezvousDesk>> all = new LinkedHashMap<>();
        all.put("new", RendezvousDesk::new);
        all.put("0 and 15 idle", () -> Desks.live(0, 15));
        all.put("four guards", () -> {
            RendezvousDesk desk = Desks.live(5, 7);
            for (int g = 0; g < 4; g++) {
                desk.guard(5, g % 2, 3, g, true);
            }
            desk.timeout(5, 2);
            return desk;
        });
        for (int place = Desks.PUBLISHING; place <= Desks.IDLE; place++) {
            int at = place;
            all.put("5 at " + at, () -> Desks.fiveAt(at));
            all.put("5 with its time over at " + at, () -> Desks.fiveClosedAt(at));
            all.put("5 with one of its ticks left at " + at, () -> {
                RendezvousDesk desk = Desks.fiveAt(at);
                desk.tick();
                desk.tick();
                return desk;
            });
        }
        int[] ends = {Desks.PUBLISHING, Desks.LOOKING, Desks.FIRST, Desks.ASLEEP};
        for (int place : ends) {
            all.put("2 paired at " + place, () -> Desks.twoPairedAt(place));
        }
        all.put("5 paired at SECOND", () -> Desks.fivePairedAt(Desks.SECOND));
        all.put("5 paired at BACK", () -> Desks.fivePairedAt(Desks.BACK));
        all.put("1 holding itself", () -> Desks.tellerAt(Desks.SECOND));
        return all;
    }

    private static Map<String, ToLongFunction<RendezvousDesk>> calls() {
        Map<String, ToLongFunction<RendezvousDesk>> all = new LinkedHashMap<>();
        for (int p : PROCESSES) {
            withProcess(all, p);
        }
        int[][] pairs = {{-1, 0}, {0, -1}, {0, 5}, {1, 0}, {0, 4}, {Integer.MAX_VALUE, 0}};
        for (int[] of : pairs) {
            all.put("pair(" + of[0] + ", " + of[1] + ")", desk -> desk.pair(of[0], of[1]));
        }
        int[][] entries = {{-1, 0, 0}, {8, 0, 0}, {3, -1, 0}, {3, 2, 0}, {3, 64, 0}, {3, 0, -1}, {3, 0, 3},
            {0, 0, 0}};
        for (int[] of : entries) {
            all.put("waiting(" + of[0] + ", " + of[1] + ", " + of[2] + ")",
                    desk -> desk.waiting(of[0], of[1], of[2]));
        }
        int[] steps = {Integer.MIN_VALUE, -1, 0, 1, 5001};
        for (int many : steps) {
            all.put("run(3, " + many + ")", desk -> desk.run(3, many));
        }
        return all;
    }

    private static void withProcess(Map<String, ToLongFunction<RendezvousDesk>> all, int p) {
        all.put("spawn(" + p + ")", desk -> {
            desk.spawn(p);
            return 0;
        });
        int[][] guards = {{0, 0}, {1, 7}, {-1, 0}, {2, 0}, {0, -1}, {1, 8}};
        for (int[] of : guards) {
            all.put("guard(" + p + ", " + of[0] + ", " + of[1] + ", 9, true)",
                    desk -> desk.guard(p, of[0], of[1], 9, true));
        }
        int[] ticks = {-1, 0, 1, 1000, 1001};
        for (int many : ticks) {
            all.put("timeout(" + p + ", " + many + ")", desk -> desk.timeout(p, many));
        }
        all.put("offer(" + p + ")", desk -> desk.offer(p));
        all.put("step(" + p + ")", desk -> desk.step(p));
        all.put("cancel(" + p + ")", desk -> desk.cancel(p) ? 1 : 0);
        all.put("finish(" + p + ")", desk -> desk.finish(p));
        int[] whats = {-1, 0, 6, 7};
        for (int what : whats) {
            all.put("process(" + p + ", " + what + ")", desk -> desk.process(p, what));
        }
    }
}

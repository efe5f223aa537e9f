import java.util.LinkedHashMap;
import java.util.Map;
import java.util.function.Supplier;
import java.util.function.ToLongFunction;

/** Terms: which processes and channels there are, and what calls with others answer. */
public final class NumbersTest {
    private static final int[] NO_PROCESSES = {-1, 16, Integer.MIN_VALUE, Integer.MAX_VALUE};
    private static final int[] NO_CHANNELS = {-1, 8, Integer.MIN_VALUE, Integer.MAX_VALUE};

    public static void main(String[] args) {
        Check check = new Check();
        noneLiveAtFirst(check);
        lowestAndHighestProcess(check);
        noSuchProcess(check);
        notLive(check);
        spawnOfALiveOne(check);
        lowestAndHighestChannel(check);
        noSuchChannel(check);
        check.exitIfWrong();
    }

    /** All calls with a process but spawn(), which asks for the opposite. */
    private static Map<String, ToLongFunction<RendezvousDesk>> callsWith(int p) {
        Map<String, ToLongFunction<RendezvousDesk>> calls = new LinkedHashMap<>();
        calls.put("guard(" + p + ", 0, 0, 0, true)", desk -> desk.guard(p, 0, 0, 0, true));
        calls.put("timeout(" + p + ", 1)", desk -> desk.timeout(p, 1));
        calls.put("offer(" + p + ")", desk -> desk.offer(p));
        calls.put("step(" + p + ")", desk -> desk.step(p));
        calls.put("cancel(" + p + ")", desk -> desk.cancel(p) ? 1 : 0);
        calls.put("finish(" + p + ")", desk -> desk.finish(p));
        calls.put("process(" + p + ", 0)", desk -> desk.process(p, 0));
        return calls;
    }

    private static long spawn(RendezvousDesk desk, int p) {
        desk.spawn(p);
        return 0;
    }

    /** "PROCESSES 0 .. 15, none live at first" */
    private static void noneLiveAtFirst(Check check) {
        for (int p = 0; p <= 15; p++) {
            int number = p;
            RendezvousDesk desk = new RendezvousDesk();
            check.throwing("process(" + p + ", 0)", Check.ILLEGAL_STATE, () -> desk.process(number, 0));
            desk.spawn(p);
            check.due("process(" + p + ", 3)", Desks.IDLE, desk.process(p, 3));
            check.due("count(0)", 1, desk.count(0));
        }
    }

    /** "PROCESSES 0 .. 15": both ends are processes in every call. */
    private static void lowestAndHighestProcess(Check check) {
        int[] ends = {0, 15};
        for (int p : ends) {
            RendezvousDesk desk = Desks.live(p);
            check.due("guard", 0, desk.guard(p, 0, 0, 0, true));
            check.due("timeout", 0, desk.timeout(p, 1));
            check.due("offer", 1, desk.offer(p));
            check.due("step", 0, desk.step(p));
            check.due("waiting", p, desk.waiting(0, 0, 0));
            check.due("process", Desks.LOOKING, desk.process(p, 3));
            check.due("cancel", true, desk.cancel(p));
            desk.timeout(p, 1);
            desk.offer(p);
            check.due("tick", 1, desk.tick());
            check.due("finish", Desks.NONE, desk.finish(p));
        }
        RendezvousDesk desk = Desks.live(0, 15);
        Desks.send(desk, 0, 0, 3);
        Desks.receive(desk, 15, 0);
        desk.run(1, 100);
        check.due("0 with 15", 15, desk.finish(0));
        check.due("15 with 0", 0, desk.finish(15));
    }

    /** "For all calls with a process: IndexOutOfBoundsException (first), when there is none" */
    private static void noSuchProcess(Check check) {
        for (int p : NO_PROCESSES) {
            noSuchProcess(check, p, RendezvousDesk::new);
            noSuchProcess(check, p, Desks::allLive);
            noSuchProcess(check, p, () -> Desks.fiveAt(Desks.SECOND));
        }
    }

    private static void noSuchProcess(Check check, int p, Supplier<RendezvousDesk> history) {
        callsWith(p).forEach((name, call) -> check.refused(name, Check.OUT_OF_BOUNDS, history, call));
        check.refused("spawn(" + p + ")", Check.OUT_OF_BOUNDS, history, desk -> spawn(desk, p));
    }

    /** "IllegalStateException, when it is not live" */
    private static void notLive(Check check) {
        int[] some = {0, 1, 6, 14, 15};
        for (int p : some) {
            callsWith(p).forEach((name, call) -> {
                check.refused(name, Check.ILLEGAL_STATE, RendezvousDesk::new, call);
                check.refused(name, Check.ILLEGAL_STATE, () -> Desks.fiveAt(Desks.BACK), call);
            });
        }
    }

    /** "(spawn(): when it is)" */
    private static void spawnOfALiveOne(Check check) {
        int[] ends = {0, 7, 15};
        for (int p : ends) {
            check.refused("spawn(" + p + "), live", Check.ILLEGAL_STATE, Desks::allLive,
                    desk -> spawn(desk, p));
        }
        for (int place = Desks.PUBLISHING; place <= Desks.IDLE; place++) {
            int at = place;
            check.refused("spawn(5) at place " + at, Check.ILLEGAL_STATE, () -> Desks.fiveAt(at),
                    desk -> spawn(desk, 5));
        }
    }

    /** "CHANNELS 0 .. 7, each with a LIST of entries" */
    private static void lowestAndHighestChannel(Check check) {
        for (int c = 0; c <= 7; c++) {
            RendezvousDesk desk = Desks.live(4);
            Desks.receive(desk, 4, c);
            desk.step(4);
            for (int other = 0; other <= 7; other++) {
                if (other == c) {
                    check.list(desk, other, new int[] {4, 1, 0});
                } else {
                    check.list(desk, other);
                }
            }
        }
    }

    private static void noSuchChannel(Check check) {
        for (int c : NO_CHANNELS) {
            check.refused("guard on channel " + c, Check.ILLEGAL_ARGUMENT, () -> Desks.live(4),
                    desk -> desk.guard(4, 0, c, 0, true));
            check.refused("waiting on channel " + c, Check.OUT_OF_BOUNDS,
                    () -> Desks.fiveAt(Desks.LOOKING), desk -> desk.waiting(c, 0, 0));
        }
    }
}

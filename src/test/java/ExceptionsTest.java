import java.util.function.Supplier;

/** "Of several exceptions the first one told is thrown": every two that may be due at once. */
public final class ExceptionsTest {
    public static void main(String[] args) {
        Check check = new Check();
        guards(check);
        timeouts(check);
        processes(check);
        runs(check);
        check.exitIfWrong();
    }

    private static RendezvousDesk withFourGuards() {
        RendezvousDesk desk = Desks.live(5);
        for (int g = 0; g < 4; g++) {
            desk.guard(5, g % 2, g, g, g != 2);
        }
        return desk;
    }

    private static void guards(Check check) {
        Supplier<RendezvousDesk> one = () -> Desks.live(5);
        int[][] wrong = {{-1, 0}, {2, 0}, {0, -1}, {0, 8}, {2, 8}};
        for (int[] of : wrong) {
            String with = " with kind " + of[0] + " and channel " + of[1];
            check.refused("no process" + with, Check.OUT_OF_BOUNDS, one,
                    desk -> desk.guard(16, of[0], of[1], 0, true));
            check.refused("no process" + with, Check.OUT_OF_BOUNDS, one,
                    desk -> desk.guard(-1, of[0], of[1], 0, true));
            check.refused("not live" + with, Check.ILLEGAL_STATE, one,
                    desk -> desk.guard(4, of[0], of[1], 0, true));
            check.refused("idle" + with, Check.ILLEGAL_ARGUMENT, one,
                    desk -> desk.guard(5, of[0], of[1], 0, true));
            check.refused("four guards" + with, Check.ILLEGAL_ARGUMENT, ExceptionsTest::withFourGuards,
                    desk -> desk.guard(5, of[0], of[1], 0, true));
            check.refused("not idle" + with, Check.ILLEGAL_ARGUMENT, () -> Desks.fiveAt(Desks.LOOKING),
                    desk -> desk.guard(5, of[0], of[1], 0, true));
        }
        check.refused("four guards", Check.UNSUPPORTED, ExceptionsTest::withFourGuards,
                desk -> desk.guard(5, 0, 0, 0, true));
    }

    private static void timeouts(Check check) {
        Supplier<RendezvousDesk> one = () -> Desks.live(5);
        int[] wrong = {-1, 1001};
        for (int ticks : wrong) {
            check.refused("no process, ticks " + ticks, Check.OUT_OF_BOUNDS, one,
                    desk -> desk.timeout(16, ticks));
            check.refused("no process, ticks " + ticks, Check.OUT_OF_BOUNDS, one,
                    desk -> desk.timeout(-1, ticks));
            check.refused("not live, ticks " + ticks, Check.ILLEGAL_STATE, one,
                    desk -> desk.timeout(4, ticks));
            check.refused("not idle, ticks " + ticks, Check.ILLEGAL_ARGUMENT,
                    () -> Desks.fiveAt(Desks.ASLEEP), desk -> desk.timeout(5, ticks));
        }
    }

    /** Not live is told for all calls with a process, before another what is. */
    private static void processes(Check check) {
        int[] wrong = {-1, 7};
        for (int what : wrong) {
            check.refused("no process, what " + what, Check.OUT_OF_BOUNDS, () -> Desks.live(5),
                    desk -> desk.process(16, what));
            check.refused("not live, what " + what, Check.ILLEGAL_STATE, () -> Desks.live(5),
                    desk -> desk.process(4, what));
        }
    }

    private static void runs(Check check) {
        int[] wrong = {0, 5001};
        for (int steps : wrong) {
            check.refused("none live, steps " + steps, Check.ILLEGAL_ARGUMENT, RendezvousDesk::new,
                    desk -> desk.run(1, steps));
        }
    }
}

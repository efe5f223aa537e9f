/** Promise 4: ticks for the next offer. */
public final class TimeoutTest {
    public static void main(String[] args) {
        Check check = new Check();
        theOnesBefore(check);
        wrongInputs(check);
        check.exitIfWrong();
    }

    private static void theOnesBefore(Check check) {
        RendezvousDesk desk = Desks.live(6);
        check.due("0 at first", 0, desk.timeout(6, 1000));
        check.due("the ones before", 1000, desk.timeout(6, 1));
        check.due("the ones before", 1, desk.timeout(6, 0));
        check.due("the ones before", 0, desk.timeout(6, 3));
        desk.offer(6);
        check.due("cancel(6)", true, desk.cancel(6));
        check.due("0 behind a cancel", 0, desk.timeout(6, 1));
        desk.offer(6);
        check.due("tick()", 1, desk.tick());
        desk.finish(6);
        check.due("0 behind a finish", 0, desk.timeout(6, 5));
    }

    private static void wrongInputs(Check check) {
        RendezvousDesk desk = Desks.live(6);
        int[] none = {-1, 1001, Integer.MIN_VALUE, Integer.MAX_VALUE};
        for (int ticks : none) {
            check.throwing("timeout(6, " + ticks + ")", Check.ILLEGAL_ARGUMENT,
                    () -> desk.timeout(6, ticks));
            check.throwing("no process", Check.OUT_OF_BOUNDS, () -> desk.timeout(16, ticks));
            check.throwing("no process", Check.OUT_OF_BOUNDS, () -> desk.timeout(-1, ticks));
            check.throwing("not live", Check.ILLEGAL_STATE, () -> desk.timeout(7, ticks));
        }
        check.due("nothing was set", 0, desk.timeout(6, 4));
        desk.offer(6);
        check.throwing("not idle", Check.UNSUPPORTED, () -> desk.timeout(6, 1));
        check.throwing("not idle, no ticks", Check.ILLEGAL_ARGUMENT, () -> desk.timeout(6, 1001));
        desk.tick();
        desk.tick();
        desk.tick();
        check.due("the fourth tick", 1, desk.tick());
        check.throwing("closed, but not finished", Check.UNSUPPORTED, () -> desk.timeout(6, 1));
    }
}

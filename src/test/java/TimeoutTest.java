/** Promise 4: ticks for the next offer. */
public final class TimeoutTest {
    public static void main(String[] args) {
        Check check = new Check();
        theOnesBefore(check);
        tooFewAndTooMany(check);
        forTheNextOfferAlone(check);
        notIdle(check);
        check.exitIfWrong();
    }

    /** "(0 .. 1000; 0 at first): the ones before" */
    private static void theOnesBefore(Check check) {
        RendezvousDesk desk = Desks.live(6, 7);
        int[] row = {1000, 999, 1, 0, 0, 500, 1000, 1000, 2};
        int before = 0;
        for (int ticks : row) {
            check.due("timeout(6, " + ticks + ")", before, desk.timeout(6, ticks));
            before = ticks;
        }
        check.due("each process has its own", 0, desk.timeout(7, 4));
        check.due("each process has its own", 2, desk.timeout(6, 0));
    }

    private static RendezvousDesk withTicks(int ticks) {
        RendezvousDesk desk = Desks.live(5);
        desk.guard(5, 0, 0, 0, true);
        desk.timeout(5, ticks);
        return desk;
    }

    /** "IllegalArgumentException, when they are none of these" */
    private static void tooFewAndTooMany(Check check) {
        int[] none = {-1, 1001, Integer.MIN_VALUE, Integer.MAX_VALUE};
        for (int ticks : none) {
            check.refused("timeout(5, " + ticks + ")", Check.ILLEGAL_ARGUMENT, () -> withTicks(0),
                    desk -> desk.timeout(5, ticks));
            check.refused("timeout(5, " + ticks + ")", Check.ILLEGAL_ARGUMENT, () -> withTicks(1000),
                    desk -> desk.timeout(5, ticks));
        }
    }

    /** "Ticks for the next offer": behind a cancel or a finish they are 0 again. */
    private static void forTheNextOfferAlone(Check check) {
        RendezvousDesk desk = withTicks(3);
        desk.offer(5);
        check.due("cancel(5)", true, desk.cancel(5));
        desk.offer(5);
        for (int i = 0; i < 10; i++) {
            check.due("a tick of the offer behind a cancel", 0, desk.tick());
        }
        desk.cancel(5);
        check.due("0 behind a cancel", 0, desk.timeout(5, 1));
        desk.offer(5);
        check.due("tick()", 1, desk.tick());
        desk.finish(5);
        desk.offer(5);
        for (int i = 0; i < 10; i++) {
            check.due("a tick of the offer behind a finish", 0, desk.tick());
        }
        desk.cancel(5);
        check.due("0 behind a finish", 0, desk.timeout(5, 5));
        check.due("set back to 0", 5, desk.timeout(5, 0));
        desk.offer(5);
        check.due("it waits for ever", 0, desk.tick());
    }

    /** "UnsupportedOperationException, when it is not idle": wherever it is. */
    private static void notIdle(Check check) {
        for (int place = Desks.PUBLISHING; place <= Desks.END; place++) {
            int at = place;
            check.refused("timeout(5, 1) at place " + at, Check.UNSUPPORTED, () -> Desks.fiveAt(at),
                    desk -> desk.timeout(5, 1));
            check.refused("timeout(5, 0) at place " + at, Check.UNSUPPORTED, () -> Desks.fiveAt(at),
                    desk -> desk.timeout(5, 0));
        }
        check.due("idle", 0, Desks.fiveAt(Desks.IDLE).timeout(5, 1));
        RendezvousDesk paired = Desks.twoPairedAt(Desks.LOOKING);
        check.throwing("paired, but not finished", Check.UNSUPPORTED, () -> paired.timeout(2, 1));
        RendezvousDesk closed = Desks.fiveClosedAt(Desks.ASLEEP);
        check.throwing("closed, but not finished", Check.UNSUPPORTED, () -> closed.timeout(5, 1));
    }
}

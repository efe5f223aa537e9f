/** Promise 8: takes an offer back. */
public final class CancelTest {
    public static void main(String[] args) {
        Check check = new Check();
        idleOnesAreRefused(check);
        openOnesThatHoldNothing(check);
        openOnesThatHoldAnother(check);
        openAtBack(check);
        heldOnes(check);
        pairedOnes(check);
        closedOnes(check);
        check.exitIfWrong();
    }

    private static RendezvousDesk idleWithGuardAndTicks() {
        RendezvousDesk desk = Desks.live(4);
        desk.guard(4, 0, 0, 0, true);
        desk.timeout(4, 7);
        return desk;
    }

    /** "UnsupportedOperationException, when it is idle." */
    private static void idleOnesAreRefused(Check check) {
        check.refused("cancel(4), idle", Check.UNSUPPORTED, () -> Desks.live(4),
                desk -> desk.cancel(4) ? 1 : 0);
        check.refused("cancel(4), idle with a guard", Check.UNSUPPORTED,
                CancelTest::idleWithGuardAndTicks, desk -> desk.cancel(4) ? 1 : 0);
        check.refused("cancel(5), idle among others", Check.UNSUPPORTED, () -> Desks.fiveAt(Desks.IDLE),
                desk -> desk.cancel(5) ? 1 : 0);
        RendezvousDesk desk = Desks.fiveAt(Desks.LOOKING);
        check.due("cancel(5)", true, desk.cancel(5));
        check.throwing("cancel(5) again", Check.UNSUPPORTED, () -> desk.cancel(5) ? 1 : 0);
    }

    /** "it is idle then, without guards, ticks 0. Whether it was." */
    private static void openOnesThatHoldNothing(Check check) {
        int[] places = {Desks.PUBLISHING, Desks.LOOKING, Desks.FIRST, Desks.ASLEEP};
        for (int place : places) {
            RendezvousDesk desk = Desks.fiveAt(place);
            int offers = desk.count(1);
            check.due("cancel(5) at " + place, true, desk.cancel(5));
            check.process(desk, 5, Desks.CLOSED, 1, Desks.NONE, Desks.IDLE, Desks.NONE, Desks.NONE, 0);
            check.due("entries", place == Desks.ASLEEP ? 0 : 1, desk.count(3));
            check.due("offers", offers - 1, desk.count(1));
            check.steps(desk, 5, 4);
            check.due("without guards", 0, desk.guard(5, 0, 0, 0, true));
            check.due("ticks 0", 0, desk.timeout(5, 0));
            check.due("the next version", 2, desk.offer(5));
        }
    }

    /** "when it is OPEN and its process holds nothing": OPEN alone is not enough. */
    private static void openOnesThatHoldAnother(Check check) {
        check.due("5 is open", Desks.OPEN, Desks.fiveAt(Desks.SECOND).process(5, 0));
        check.cancelRefused("cancel(5) at SECOND", 5, () -> Desks.fiveAt(Desks.SECOND));
        int[][] both = {{0, 1}, {0, 15}, {14, 15}};
        for (int[] of : both) {
            check.cancelRefused("cancel(" + of[1] + "), holding " + of[0], of[1],
                    () -> holding(of[0], of[1]));
        }
    }

    /** The higher of both is OPEN at SECOND and holds the lower. */
    private static RendezvousDesk holding(int lower, int higher) {
        RendezvousDesk desk = Desks.live(lower, higher);
        Desks.send(desk, lower, 3, 20);
        desk.step(lower);
        Desks.receive(desk, higher, 3);
        Desks.stepTo(desk, higher, Desks.SECOND);
        return desk;
    }

    private static void openAtBack(Check check) {
        check.process(Desks.fiveOpenAtBack(), 5, Desks.OPEN, 1, Desks.NONE, Desks.BACK);
        check.cancelRefused("cancel(5) at BACK", 5, Desks::fiveOpenAtBack);
        RendezvousDesk desk = Desks.fiveOpenAtBack();
        desk.step(5);
        check.due("cancel(5) behind BACK", true, desk.cancel(5));
    }

    private static void heldOnes(Check check) {
        int[] byItself = {Desks.SECOND, Desks.TELLING, Desks.CLOSING};
        for (int place : byItself) {
            check.due("1 is held", Desks.HELD, Desks.tellerAt(place).process(1, 0));
            check.cancelRefused("cancel(1) at " + place, 1, () -> Desks.tellerAt(place));
        }
        check.cancelRefused("cancel(2), held by 5", 2, () -> Desks.fiveAt(Desks.SECOND));
        check.cancelRefused("cancel(5), held by 7", 5, () -> Desks.fiveAt(Desks.BACK));
        check.cancelRefused("cancel(2), held by 1", 2, () -> Desks.tellerAt(Desks.TELLING));
        check.due("cancel(2), not yet held", true, Desks.tellerAt(Desks.SECOND).cancel(2));
    }

    private static void pairedOnes(Check check) {
        int[] places = {Desks.PUBLISHING, Desks.LOOKING, Desks.FIRST, Desks.ASLEEP};
        for (int place : places) {
            check.cancelRefused("cancel(2), paired at " + place, 2, () -> Desks.twoPairedAt(place));
        }
        check.cancelRefused("cancel(5), paired at SECOND", 5, () -> Desks.fivePairedAt(Desks.SECOND));
        check.cancelRefused("cancel(5), paired at BACK", 5, () -> Desks.fivePairedAt(Desks.BACK));
        check.cancelRefused("cancel(1) at the end", 1, () -> Desks.tellerAt(Desks.END));
    }

    private static void closedOnes(Check check) {
        int[] places = {Desks.PUBLISHING, Desks.LOOKING, Desks.FIRST, Desks.SECOND, Desks.ASLEEP};
        for (int place : places) {
            check.cancelRefused("cancel(5), closed at " + place, 5, () -> Desks.fiveClosedAt(place));
        }
        check.cancelRefused("cancel(5), closed at the end", 5, () -> {
            RendezvousDesk desk = Desks.fiveClosedAt(Desks.LOOKING);
            desk.step(5);
            return desk;
        });
    }
}

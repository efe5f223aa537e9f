/** Promise 5: begins an offer. */
public final class OfferTest {
    public static void main(String[] args) {
        Check check = new Check();
        versions(check);
        versionsBehindAFinish(check);
        withoutGuards(check);
        withGuardsThatAreOffAlone(check);
        withOneGuardOn(check);
        notIdle(check);
        check.exitIfWrong();
    }

    /** "a VERSION (0 at first)", "the version is one more, the state is OPEN", "at PUBLISHING" */
    private static void versions(Check check) {
        RendezvousDesk desk = Desks.live(2);
        check.process(desk, 2, Desks.CLOSED, 0);
        for (int version = 1; version <= 30; version++) {
            desk.guard(2, 1, 4, 1, true);
            check.due("offer(2)", version, desk.offer(2));
            check.process(desk, 2, Desks.OPEN, version, Desks.NONE, Desks.PUBLISHING,
                    Desks.NONE, Desks.NONE, 0);
            check.due("nothing is published yet", 0, desk.count(3));
            check.due("count(1)", 1, desk.count(1));
            desk.step(2);
            check.due("waiting(4, 0, 1)", version, desk.waiting(4, 0, 1));
            desk.cancel(2);
            check.due("the version stays", version, desk.process(2, 1));
        }
    }

    private static void versionsBehindAFinish(Check check) {
        RendezvousDesk desk = Desks.tellerAt(Desks.END);
        desk.finish(1);
        check.due("the version stays", 1, desk.process(1, 1));
        check.due("offer(1)", 2, desk.offer(1));
        check.due("the other's version", 1, desk.process(2, 1));
        RendezvousDesk closed = Desks.fiveClosedAt(Desks.LOOKING);
        closed.finish(5);
        check.due("offer(5)", 2, closed.offer(5));
    }

    /** "Without guards that are on it is ASLEEP at once, when the offer begins": none at all. */
    private static void withoutGuards(Check check) {
        RendezvousDesk desk = Desks.live(0);
        check.due("offer(0)", 1, desk.offer(0));
        check.process(desk, 0, Desks.OPEN, 1, Desks.NONE, Desks.ASLEEP, Desks.NONE, Desks.NONE, 0);
        check.due("entries", 0, desk.count(3));
        check.due("offers", 1, desk.count(1));
        check.steps(desk, 0, 1, 1);
        check.due("cancel(0)", true, desk.cancel(0));
    }

    /** The same, when there are one to four guards and all are off. */
    private static void withGuardsThatAreOffAlone(Check check) {
        for (int many = 1; many <= 4; many++) {
            RendezvousDesk desk = Desks.live(1);
            for (int g = 0; g < many; g++) {
                desk.guard(1, g % 2, g, 0, false);
            }
            desk.offer(1);
            check.process(desk, 1, Desks.OPEN, 1, Desks.NONE, Desks.ASLEEP);
            check.steps(desk, 1, 1, 1);
            check.due("entries", 0, desk.count(3));
        }
    }

    /** One above it: a single guard that is on, whichever of the four, is published. */
    private static void withOneGuardOn(Check check) {
        for (int on = 0; on < 4; on++) {
            RendezvousDesk desk = Desks.live(2);
            for (int g = 0; g < 4; g++) {
                desk.guard(2, 0, g, 0, g == on);
            }
            desk.offer(2);
            check.place(desk, 2, Desks.PUBLISHING);
            check.steps(desk, 2, 0);
            check.place(desk, 2, Desks.LOOKING);
            check.due("entries", 1, desk.count(3));
            check.list(desk, on, new int[] {2, 1, on});
            check.steps(desk, 2, 0, 1);
        }
    }

    /** "UnsupportedOperationException, when it is not idle": wherever it is. */
    private static void notIdle(Check check) {
        for (int place = Desks.PUBLISHING; place <= Desks.END; place++) {
            int at = place;
            check.refused("offer(5) at place " + at, Check.UNSUPPORTED, () -> Desks.fiveAt(at),
                    desk -> desk.offer(5));
        }
        check.due("idle", 1, Desks.fiveAt(Desks.IDLE).offer(5));
        check.refused("paired, but not finished", Check.UNSUPPORTED,
                () -> Desks.twoPairedAt(Desks.LOOKING), desk -> desk.offer(2));
        check.refused("closed, but not finished", Check.UNSUPPORTED,
                () -> Desks.fiveClosedAt(Desks.ASLEEP), desk -> desk.offer(5));
    }
}

/** Promise 5: begins an offer. */
public final class OfferTest {
    public static void main(String[] args) {
        Check check = new Check();
        versions(check);
        guardsThatAreOff(check);
        wrongInputs(check);
        check.exitIfWrong();
    }

    private static void versions(Check check) {
        RendezvousDesk desk = Desks.live(2);
        for (int version = 1; version <= 5; version++) {
            desk.guard(2, 1, 4, 1, true);
            check.due("offer(2)", version, desk.offer(2));
            check.process(desk, 2, Desks.OPEN, version, Desks.NONE, Desks.PUBLISHING,
                    Desks.NONE, Desks.NONE, 0);
            check.due("nothing is published yet", 0, desk.count(3));
            check.due("count(1)", 1, desk.count(1));
            desk.step(2);
            check.due("waiting(4, 0, 1)", version, desk.waiting(4, 0, 1));
            desk.cancel(2);
            check.process(desk, 2, Desks.CLOSED, version, Desks.NONE, Desks.IDLE);
        }
    }

    private static void guardsThatAreOff(Check check) {
        RendezvousDesk desk = Desks.live(0, 1, 2);
        desk.offer(0);
        check.place(desk, 0, Desks.ASLEEP);
        desk.guard(1, 0, 0, 0, false);
        desk.guard(1, 1, 1, 0, false);
        desk.offer(1);
        check.process(desk, 1, Desks.OPEN, 1, Desks.NONE, Desks.ASLEEP);
        check.steps(desk, 1, 1, 1);
        desk.guard(2, 0, 0, 0, false);
        desk.guard(2, 0, 1, 0, true);
        desk.guard(2, 0, 2, 0, false);
        desk.offer(2);
        check.place(desk, 2, Desks.PUBLISHING);
        desk.step(2);
        check.place(desk, 2, Desks.LOOKING);
        check.due("count(3)", 1, desk.count(3));
        check.due("waiting(1, 0, 2)", 1, desk.waiting(1, 0, 2));
        check.steps(desk, 2, 0, 1);
    }

    private static void wrongInputs(Check check) {
        RendezvousDesk desk = Desks.live(2);
        check.throwing("no process", Check.OUT_OF_BOUNDS, () -> desk.offer(16));
        check.throwing("no process", Check.OUT_OF_BOUNDS, () -> desk.offer(-1));
        check.throwing("not live", Check.ILLEGAL_STATE, () -> desk.offer(3));
        desk.timeout(2, 1);
        desk.offer(2);
        check.throwing("not idle", Check.UNSUPPORTED, () -> desk.offer(2));
        desk.tick();
        check.throwing("closed, but not finished", Check.UNSUPPORTED, () -> desk.offer(2));
        check.due("the version stays", 1, desk.process(2, 1));
    }
}

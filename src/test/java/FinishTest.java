/** Promise 9: an offer that came to its end. */
public final class FinishTest {
    public static void main(String[] args) {
        Check check = new Check();
        wrongInputs(check);
        notBeforeTheEnd(check);
        withoutAStepBefore(check);
        idleThen(check);
        check.exitIfWrong();
    }

    private static void wrongInputs(Check check) {
        RendezvousDesk desk = Desks.live(4);
        check.throwing("no process", Check.OUT_OF_BOUNDS, () -> desk.finish(16));
        check.throwing("no process", Check.OUT_OF_BOUNDS, () -> desk.finish(-1));
        check.throwing("not live", Check.ILLEGAL_STATE, () -> desk.finish(3));
        check.throwing("idle", Check.UNSUPPORTED, () -> desk.finish(4));
    }

    private static void notBeforeTheEnd(Check check) {
        for (int place = Desks.PUBLISHING; place <= Desks.CLOSING; place++) {
            if (place != Desks.BACK) {
                RendezvousDesk desk = Desks.tellerAt(place);
                check.throwing("finish(1) at " + place, Check.UNSUPPORTED, () -> desk.finish(1));
                check.place(desk, 1, place);
            }
        }
        RendezvousDesk asleep = Desks.live(0);
        asleep.offer(0);
        check.throwing("finish(0) asleep", Check.UNSUPPORTED, () -> asleep.finish(0));
        RendezvousDesk closed = Desks.higherAtSecond(1);
        closed.tick();
        check.throwing("closed at SECOND", Check.UNSUPPORTED, () -> closed.finish(5));
        closed.step(5);
        check.throwing("closed at BACK", Check.UNSUPPORTED, () -> closed.finish(5));
        closed.step(5);
        check.due("finish(5) at LOOKING", Desks.NONE, closed.finish(5));
    }

    private static void withoutAStepBefore(Check check) {
        RendezvousDesk desk = Desks.tellerAt(Desks.CLOSING);
        check.due("finish(2), told but without a step", 1, desk.finish(2));
        desk.step(1);
        check.due("finish(1)", 2, desk.finish(1));
        RendezvousDesk timed = Desks.live(0, 1);
        timed.timeout(0, 1);
        timed.offer(0);
        timed.timeout(1, 1);
        Desks.receive(timed, 1, 0);
        timed.tick();
        check.due("finish(0), asleep", Desks.NONE, timed.finish(0));
        check.due("finish(1), publishing", Desks.NONE, timed.finish(1));
    }

    private static void idleThen(Check check) {
        RendezvousDesk desk = Desks.tellerAt(Desks.END);
        check.due("entries before", 2, desk.count(3));
        check.due("finish(1)", 2, desk.finish(1));
        check.process(desk, 1, Desks.CLOSED, 1, Desks.NONE, Desks.IDLE, Desks.NONE, Desks.NONE, 0);
        check.due("entries", 1, desk.count(3));
        check.due("the other's entry", 2, desk.waiting(0, 0, 0));
        check.due("offers", 1, desk.count(1));
        check.due("pairs stay", 1, desk.count(2));
        check.throwing("finish(1) again", Check.UNSUPPORTED, () -> desk.finish(1));
        check.due("without guards", 0, desk.guard(1, 0, 0, 0, true));
        check.due("ticks 0", 0, desk.timeout(1, 7));
        check.due("the next version", 2, desk.offer(1));
        check.process(desk, 1, Desks.OPEN, 2, Desks.NONE, Desks.PUBLISHING, Desks.NONE, Desks.NONE, 0);
        check.due("finish(2)", 1, desk.finish(2));
    }
}

/** Promise 8: takes an offer back. */
public final class CancelTest {
    public static void main(String[] args) {
        Check check = new Check();
        wrongInputs(check);
        openOnes(check);
        holdingOrHeldOrEnded(check);
        entriesMoveUp(check);
        check.exitIfWrong();
    }

    private static void wrongInputs(Check check) {
        RendezvousDesk desk = Desks.live(4);
        check.throwing("no process", Check.OUT_OF_BOUNDS, () -> desk.cancel(16) ? 1 : 0);
        check.throwing("no process", Check.OUT_OF_BOUNDS, () -> desk.cancel(-1) ? 1 : 0);
        check.throwing("not live", Check.ILLEGAL_STATE, () -> desk.cancel(3) ? 1 : 0);
        check.throwing("idle", Check.UNSUPPORTED, () -> desk.cancel(4) ? 1 : 0);
        desk.guard(4, 0, 0, 0, true);
        check.throwing("idle, with a guard", Check.UNSUPPORTED, () -> desk.cancel(4) ? 1 : 0);
        check.due("the guard stays", 1, desk.guard(4, 0, 0, 0, true));
    }

    private static void openOnes(Check check) {
        int[] places = {Desks.PUBLISHING, Desks.LOOKING, Desks.FIRST};
        for (int place : places) {
            RendezvousDesk desk = Desks.tellerAt(place);
            check.due("cancel(1) at " + place, true, desk.cancel(1));
            check.process(desk, 1, Desks.CLOSED, 1, Desks.NONE, Desks.IDLE, Desks.NONE, Desks.NONE, 0);
            check.due("entries", 1, desk.count(3));
            check.due("offers", 1, desk.count(1));
            check.due("without guards", 0, desk.guard(1, 0, 0, 0, true));
            check.due("ticks 0", 0, desk.timeout(1, 0));
        }
        RendezvousDesk desk = Desks.live(0);
        desk.offer(0);
        check.due("cancel(0) asleep", true, desk.cancel(0));
        check.steps(desk, 0, 4);
    }

    private static void holdingOrHeldOrEnded(Check check) {
        int[] places = {Desks.SECOND, Desks.TELLING, Desks.CLOSING, Desks.END};
        for (int place : places) {
            RendezvousDesk desk = Desks.tellerAt(place);
            check.due("cancel(1) at " + place, false, desk.cancel(1));
            check.place(desk, 1, place);
            check.due("entries", 2, desk.count(3));
            check.due("cancel(2) with 1 at " + place, place == Desks.SECOND, desk.cancel(2));
        }
        RendezvousDesk desk = Desks.higherAtSecond(0);
        check.due("cancel(5), open, but holding 2", false, desk.cancel(5));
        check.due("cancel(2), held", false, desk.cancel(2));
        check.due("2 is still held", 5, desk.process(2, 2));
        RendezvousDesk timed = Desks.live(0);
        timed.timeout(0, 1);
        timed.offer(0);
        timed.tick();
        check.due("cancel(0), closed by its time", false, timed.cancel(0));
        check.due("finish(0)", Desks.NONE, timed.finish(0));
        openAtBack(check);
    }

    /** 7 gives 5 back because its own time is over, so 5 is open at BACK and holds 2. */
    private static void openAtBack(Check check) {
        RendezvousDesk desk = Desks.live(2, 5, 7);
        Desks.send(desk, 2, 3, 20);
        desk.step(2);
        desk.guard(5, 0, 3, 0, true);
        desk.guard(5, 1, 4, 50, true);
        desk.offer(5);
        Desks.steps(desk, 5, 4);
        desk.timeout(7, 1);
        Desks.receive(desk, 7, 4);
        Desks.steps(desk, 7, 3);
        desk.step(5);
        check.process(desk, 5, Desks.HELD, 1, 7, Desks.BACK);
        desk.tick();
        Desks.steps(desk, 7, 2);
        check.process(desk, 5, Desks.OPEN, 1, Desks.NONE, Desks.BACK);
        check.due("cancel(5) at BACK", false, desk.cancel(5));
        desk.step(5);
        check.due("cancel(5) behind BACK", true, desk.cancel(5));
    }

    private static void entriesMoveUp(Check check) {
        RendezvousDesk desk = Desks.live(1, 2, 3);
        for (int p = 1; p <= 3; p++) {
            desk.guard(p, 0, 0, 0, true);
            desk.guard(p, 0, 5, 0, true);
            desk.guard(p, 0, 0, 0, true);
            desk.offer(p);
            Desks.steps(desk, p, 3);
        }
        check.due("cancel(2)", true, desk.cancel(2));
        check.due("count(3)", 6, desk.count(3));
        int[][] first = {{1, 0}, {1, 2}, {3, 0}, {3, 2}};
        for (int i = 0; i < first.length; i++) {
            check.due("waiting(0, " + i + ", 0)", first[i][0], desk.waiting(0, i, 0));
            check.due("waiting(0, " + i + ", 2)", first[i][1], desk.waiting(0, i, 2));
        }
        check.due("waiting(5, 0, 0)", 1, desk.waiting(5, 0, 0));
        check.due("waiting(5, 1, 0)", 3, desk.waiting(5, 1, 0));
        check.throwing("waiting(5, 2, 0)", Check.OUT_OF_BOUNDS, () -> desk.waiting(5, 2, 0));
    }
}

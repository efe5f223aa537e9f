/** Promise 14: live processes, offers, pairs, entries and ticks. */
public final class CountTest {
    public static void main(String[] args) {
        Check check = new Check();
        fromNoneOn(check);
        theMost(check);
        offersUntilTheFinish(check);
        anotherWhat(check);
        check.exitIfWrong();
    }

    private static void counts(Check check, RendezvousDesk desk, int... want) {
        for (int what = 0; what < want.length; what++) {
            check.due("count(" + what + ")", want[what], desk.count(what));
        }
    }

    private static void fromNoneOn(Check check) {
        RendezvousDesk desk = new RendezvousDesk();
        counts(check, desk, 0, 0, 0, 0, 0);
        desk.spawn(1);
        counts(check, desk, 1, 0, 0, 0, 0);
        desk.spawn(2);
        desk.spawn(6);
        counts(check, desk, 3, 0, 0, 0, 0);
        Desks.send(desk, 2, 0, 10);
        Desks.receive(desk, 1, 0);
        counts(check, desk, 3, 2, 0, 0, 0);
        desk.tick();
        desk.step(2);
        counts(check, desk, 3, 2, 0, 1, 1);
        desk.step(1);
        counts(check, desk, 3, 2, 0, 2, 1);
        Desks.steps(desk, 1, 3);
        counts(check, desk, 3, 2, 0, 2, 1);
        desk.step(1);
        counts(check, desk, 3, 2, 1, 2, 1);
        desk.tick();
        desk.step(1);
        desk.finish(1);
        counts(check, desk, 3, 1, 1, 1, 2);
        desk.finish(2);
        counts(check, desk, 3, 0, 1, 0, 2);
    }

    /** All sixteen processes live, with offers, four entries each, in all lists together. */
    private static void theMost(Check check) {
        RendezvousDesk desk = Desks.allLive();
        for (int p = 0; p < 16; p++) {
            for (int g = 0; g < 4; g++) {
                desk.guard(p, p % 2, 2 * g + p / 8, 0, true);
            }
            desk.offer(p);
            Desks.steps(desk, p, 4);
        }
        counts(check, desk, 16, 16, 0, 64, 0);
        desk.run(4, 5000);
        counts(check, desk, 16, 16, 8, 64, 0);
        for (int p = 0; p < 16; p++) {
            desk.finish(p);
            counts(check, desk, 16, 15 - p, 8, 60 - 4 * p, 0);
        }
    }

    /** An offer is one until it is cancelled or finished, though it is closed or paired. */
    private static void offersUntilTheFinish(Check check) {
        RendezvousDesk closed = Desks.fiveClosedAt(Desks.LOOKING);
        counts(check, closed, 3, 2, 0, 3, 3);
        closed.step(5);
        counts(check, closed, 3, 2, 0, 3, 3);
        closed.finish(5);
        counts(check, closed, 3, 1, 0, 1, 3);
        closed.cancel(2);
        counts(check, closed, 3, 0, 0, 0, 3);
    }

    /** "NONE for another what": 0 to 4 are there, -1 and 5 are not. */
    private static void anotherWhat(Check check) {
        int[] none = {-1, 5, Integer.MIN_VALUE, Integer.MAX_VALUE};
        for (int what : none) {
            RendezvousDesk desk = Desks.fiveAt(Desks.END);
            check.due("count(" + what + ")", -1, desk.count(what));
            check.same("behind count(" + what + ")", Shown.of(Desks.fiveAt(Desks.END)), Shown.of(desk));
            check.due("count(" + what + ") of a new desk", -1, new RendezvousDesk().count(what));
        }
    }
}

/** Promise 2: a process is live, idle, without guards. */
public final class SpawnTest {
    public static void main(String[] args) {
        Check check = new Check();
        everyProcessOnce(check);
        whileOthersHaveOffers(check);
        check.exitIfWrong();
    }

    /** From none live to all sixteen. */
    private static void everyProcessOnce(Check check) {
        RendezvousDesk desk = new RendezvousDesk();
        check.due("count(0)", 0, desk.count(0));
        for (int p = 15; p >= 0; p--) {
            desk.spawn(p);
            check.due("count(0)", 16 - p, desk.count(0));
            check.process(desk, p, Desks.CLOSED, 0, Desks.NONE, Desks.IDLE, Desks.NONE, Desks.NONE, 0);
            check.steps(desk, p, 4);
            check.due("the ticks", 0, desk.timeout(p, 0));
            check.due("the first guard's number", 0, desk.guard(p, 0, 0, 0, true));
        }
        check.due("count(1)", 0, desk.count(1));
        check.due("count(3)", 0, desk.count(3));
    }

    /** A spawn changes nothing of the others; they stay as they are, and CLEAN. */
    private static void whileOthersHaveOffers(Check check) {
        RendezvousDesk desk = Desks.live(2);
        Desks.receive(desk, 2, 0);
        check.steps(desk, 2, 0, 0);
        desk.spawn(1);
        check.process(desk, 2, Desks.OPEN, 1, Desks.NONE, Desks.LOOKING);
        check.due("count(0)", 2, desk.count(0));
        check.due("count(1)", 1, desk.count(1));
        check.steps(desk, 2, 1);
    }
}

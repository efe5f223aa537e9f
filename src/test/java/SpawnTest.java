/** Promise 2: a process is live, idle, without guards. */
public final class SpawnTest {
    public static void main(String[] args) {
        Check check = new Check();
        everyProcessOnce(check);
        wrongInputs(check);
        check.exitIfWrong();
    }

    private static void everyProcessOnce(Check check) {
        RendezvousDesk desk = new RendezvousDesk();
        for (int p = 15; p >= 0; p--) {
            desk.spawn(p);
            check.due("count(0)", 16 - p, desk.count(0));
            check.process(desk, p, Desks.CLOSED, 0, Desks.NONE, Desks.IDLE, Desks.NONE, Desks.NONE, 0);
            check.steps(desk, p, 4);
            check.due("the first guard's number", 0, desk.guard(p, 0, 0, 0, true));
        }
        check.due("count(1)", 0, desk.count(1));
    }

    private static void wrongInputs(Check check) {
        RendezvousDesk desk = Desks.live(0);
        int[] none = {-1, 16, Integer.MIN_VALUE, Integer.MAX_VALUE};
        for (int p : none) {
            check.throwing("spawn(" + p + ")", Check.OUT_OF_BOUNDS, () -> {
                desk.spawn(p);
                return 0;
            });
        }
        check.throwing("spawn(0) again", Check.ILLEGAL_STATE, () -> {
            desk.spawn(0);
            return 0;
        });
        Desks.receive(desk, 0, 1);
        check.throwing("spawn(0) with an offer", Check.ILLEGAL_STATE, () -> {
            desk.spawn(0);
            return 0;
        });
        check.place(desk, 0, Desks.PUBLISHING);
        check.due("count(0)", 1, desk.count(0));
    }
}

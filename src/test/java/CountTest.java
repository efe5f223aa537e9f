/** Promise 14: live processes, offers, pairs, entries and ticks. */
public final class CountTest {
    public static void main(String[] args) {
        Check check = new Check();
        RendezvousDesk desk = Desks.live(1, 2, 6);
        counts(check, desk, 3, 0, 0, 0, 0);
        Desks.send(desk, 2, 0, 10);
        Desks.receive(desk, 1, 0);
        counts(check, desk, 3, 2, 0, 0, 0);
        desk.tick();
        desk.step(2);
        desk.step(1);
        counts(check, desk, 3, 2, 0, 2, 1);
        Desks.steps(desk, 1, 4);
        counts(check, desk, 3, 2, 1, 2, 1);
        desk.tick();
        desk.step(1);
        desk.finish(1);
        counts(check, desk, 3, 1, 1, 1, 2);
        desk.finish(2);
        counts(check, desk, 3, 0, 1, 0, 2);
        int[] none = {-1, 5, Integer.MIN_VALUE, Integer.MAX_VALUE};
        for (int what : none) {
            check.due("count(" + what + ")", Desks.NONE, desk.count(what));
        }
        check.exitIfWrong();
    }

    private static void counts(Check check, RendezvousDesk desk, int... want) {
        for (int what = 0; what < want.length; what++) {
            check.due("count(" + what + ")", want[what], desk.count(what));
        }
    }
}

/** Promise 11: the entries of a channel's list. */
public final class WaitingTest {
    public static void main(String[] args) {
        Check check = new Check();
        inTheOrderTheyCame(check);
        aFullList(check);
        wrongInputs(check);
        check.exitIfWrong();
    }

    private static void inTheOrderTheyCame(Check check) {
        RendezvousDesk desk = Desks.live(4, 11);
        Desks.receive(desk, 11, 7);
        desk.cancel(11);
        desk.guard(11, 1, 0, 0, false);
        desk.guard(11, 1, 7, 0, true);
        desk.offer(11);
        desk.step(11);
        Desks.receive(desk, 4, 7);
        desk.step(4);
        int[][] want = {{11, 2, 1}, {4, 1, 0}};
        for (int i = 0; i < 2; i++) {
            for (int what = 0; what < 3; what++) {
                check.due("waiting(7, " + i + ", " + what + ")", want[i][what], desk.waiting(7, i, what));
            }
        }
    }

    private static void aFullList(Check check) {
        RendezvousDesk desk = new RendezvousDesk();
        for (int p = 0; p < 16; p++) {
            desk.spawn(p);
            for (int g = 0; g < 4; g++) {
                desk.guard(p, 0, 3, 0, true);
            }
            desk.offer(p);
            Desks.steps(desk, p, 4);
        }
        check.due("count(3)", 64, desk.count(3));
        check.due("waiting(3, 63, 0)", 15, desk.waiting(3, 63, 0));
        check.due("waiting(3, 63, 2)", 3, desk.waiting(3, 63, 2));
        check.throwing("waiting(3, 64, 0)", Check.OUT_OF_BOUNDS, () -> desk.waiting(3, 64, 0));
        desk.run(1, 5000);
        check.due("all are asleep", Desks.ASLEEP, desk.process(9, 3));
    }

    private static void wrongInputs(Check check) {
        RendezvousDesk desk = Desks.live(0);
        Desks.receive(desk, 0, 0);
        desk.step(0);
        int[][] none = {{-1, 0, 0}, {8, 0, 0}, {0, -1, 0}, {0, 1, 0}, {0, 0, -1}, {0, 0, 3}, {1, 0, 0},
            {Integer.MAX_VALUE, 0, 0}, {0, Integer.MAX_VALUE, 0}, {0, 0, Integer.MIN_VALUE}};
        for (int[] of : none) {
            check.throwing("waiting(" + of[0] + ", " + of[1] + ", " + of[2] + ")", Check.OUT_OF_BOUNDS,
                    () -> desk.waiting(of[0], of[1], of[2]));
        }
        check.due("waiting(0, 0, 1)", 1, desk.waiting(0, 0, 1));
    }
}

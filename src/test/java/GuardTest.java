/** Promise 3: a guard for the next offer. */
public final class GuardTest {
    public static void main(String[] args) {
        Check check = new Check();
        numbersAndFour(check);
        wrongInputs(check);
        orderOfExceptions(check);
        matching(check);
        check.exitIfWrong();
    }

    private static void numbersAndFour(Check check) {
        RendezvousDesk desk = Desks.live(3);
        check.due("guard 0", 0, desk.guard(3, 0, 0, 0, true));
        check.due("guard 1", 1, desk.guard(3, 1, 7, Integer.MIN_VALUE, false));
        check.due("guard 2", 2, desk.guard(3, 1, 7, Integer.MAX_VALUE, true));
        check.due("guard 3", 3, desk.guard(3, 0, 0, 9, true));
        check.throwing("a fifth guard", Check.UNSUPPORTED, () -> desk.guard(3, 0, 0, 0, true));
        check.throwing("a fifth guard that is off", Check.UNSUPPORTED,
                () -> desk.guard(3, 0, 0, 0, false));
        desk.offer(3);
        Desks.steps(desk, 3, 3);
        check.due("count(3)", 3, desk.count(3));
        check.due("waiting(0, 0, 2)", 0, desk.waiting(0, 0, 2));
        check.due("waiting(7, 0, 2)", 2, desk.waiting(7, 0, 2));
        check.due("waiting(0, 1, 2)", 3, desk.waiting(0, 1, 2));
        check.due("cancel(3)", true, desk.cancel(3));
        check.due("a guard of the next offer", 0, desk.guard(3, 0, 0, 0, true));
    }

    private static void wrongInputs(Check check) {
        RendezvousDesk desk = Desks.live(3);
        int[] noKinds = {-1, 2, Integer.MIN_VALUE, Integer.MAX_VALUE};
        for (int kind : noKinds) {
            check.throwing("kind " + kind, Check.ILLEGAL_ARGUMENT, () -> desk.guard(3, kind, 0, 0, true));
        }
        int[] noChannels = {-1, 8, Integer.MIN_VALUE, Integer.MAX_VALUE};
        for (int c : noChannels) {
            check.throwing("channel " + c, Check.ILLEGAL_ARGUMENT, () -> desk.guard(3, 0, c, 0, true));
            check.throwing("channel " + c, Check.ILLEGAL_ARGUMENT, () -> desk.guard(3, 1, c, 0, false));
        }
        check.due("nothing was added", 0, desk.guard(3, 0, 0, 0, true));
    }

    private static void orderOfExceptions(Check check) {
        RendezvousDesk desk = Desks.live(3);
        check.throwing("no process, no kind", Check.OUT_OF_BOUNDS, () -> desk.guard(16, 2, 8, 0, true));
        check.throwing("no process, no kind", Check.OUT_OF_BOUNDS, () -> desk.guard(-1, 2, 8, 0, true));
        check.throwing("not live, no kind", Check.ILLEGAL_STATE, () -> desk.guard(4, 2, 8, 0, true));
        desk.offer(3);
        check.throwing("not idle", Check.UNSUPPORTED, () -> desk.guard(3, 0, 0, 0, true));
        check.throwing("not idle, no kind", Check.ILLEGAL_ARGUMENT, () -> desk.guard(3, 2, 0, 0, true));
        check.throwing("not idle, no channel", Check.ILLEGAL_ARGUMENT, () -> desk.guard(3, 0, 8, 0, true));
    }

    private static void matching(Check check) {
        check.due("receive with send", true, pairs(0, 1, 1, 1));
        check.due("send with receive", true, pairs(1, 0, 1, 1));
        check.due("send with send", false, pairs(1, 1, 1, 1));
        check.due("receive with receive", false, pairs(0, 0, 1, 1));
        check.due("another channel", false, pairs(0, 1, 1, 2));
    }

    private static boolean pairs(int kind, int otherKind, int channel, int otherChannel) {
        RendezvousDesk desk = Desks.live(0, 1);
        desk.guard(0, kind, channel, 8, true);
        desk.guard(1, otherKind, otherChannel, 9, true);
        desk.offer(0);
        desk.offer(1);
        desk.run(1, 200);
        return desk.count(2) == 1;
    }
}

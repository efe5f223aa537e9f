/** Promise 10: what is told of a process. */
public final class ProcessTest {
    public static void main(String[] args) {
        Check check = new Check();
        wrongInputs(check);
        ofPairedOnes(check);
        ofOneThatIsHeld(check);
        check.exitIfWrong();
    }

    private static void wrongInputs(Check check) {
        RendezvousDesk desk = Desks.live(0, 15);
        for (int what = 0; what <= 6; what++) {
            final int each = what;
            check.throwing("no process", Check.OUT_OF_BOUNDS, () -> desk.process(-1, each));
            check.throwing("no process", Check.OUT_OF_BOUNDS, () -> desk.process(16, each));
            check.throwing("not live", Check.ILLEGAL_STATE, () -> desk.process(7, each));
        }
        int[] none = {-1, 7, Integer.MIN_VALUE, Integer.MAX_VALUE};
        for (int what : none) {
            check.throwing("process(0, " + what + ")", Check.OUT_OF_BOUNDS, () -> desk.process(0, what));
            check.throwing("process(16, " + what + ")", Check.OUT_OF_BOUNDS, () -> desk.process(16, what));
            // Not live is told before the other what.
            check.throwing("process(7, " + what + ")", Check.ILLEGAL_STATE, () -> desk.process(7, what));
        }
    }

    private static void ofPairedOnes(Check check) {
        RendezvousDesk desk = Desks.live(3, 8);
        desk.guard(3, 0, 0, 0, true);
        desk.guard(3, 0, 1, 0, false);
        desk.guard(3, 1, 2, -44, true);
        desk.offer(3);
        desk.guard(8, 1, 1, 5, true);
        desk.guard(8, 0, 2, 77, true);
        desk.offer(8);
        desk.run(9, 300);
        check.process(desk, 3, Desks.PAIRED, 1, Desks.NONE, Desks.END, 8, 2, 0);
        check.process(desk, 8, Desks.PAIRED, 1, Desks.NONE, Desks.END, 3, 1, -44);
    }

    private static void ofOneThatIsHeld(Check check) {
        RendezvousDesk desk = Desks.higherAtSecond(0);
        check.process(desk, 2, Desks.HELD, 1, 5, Desks.LOOKING, Desks.NONE, Desks.NONE, 0);
        check.process(desk, 5, Desks.OPEN, 1, Desks.NONE, Desks.SECOND, Desks.NONE, Desks.NONE, 0);
        check.process(desk, 7, Desks.CLOSED, 0, Desks.NONE, Desks.IDLE, Desks.NONE, Desks.NONE, 0);
    }
}

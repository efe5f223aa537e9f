/** Promise 1: no live processes, empty lists. */
public final class NewObjectTest {
    public static void main(String[] args) {
        Check check = new Check();
        RendezvousDesk desk = new RendezvousDesk();
        for (int what = 0; what <= 4; what++) {
            check.due("count(" + what + ")", 0, desk.count(what));
        }
        for (int p = 0; p < 16; p++) {
            final int number = p;
            check.throwing("step(" + p + ")", Check.ILLEGAL_STATE, () -> desk.step(number));
        }
        for (int c = 0; c < 8; c++) {
            final int channel = c;
            check.throwing("waiting(" + c + ", 0, 0)", Check.OUT_OF_BOUNDS,
                    () -> desk.waiting(channel, 0, 0));
        }
        check.throwing("pair(0, 0)", Check.OUT_OF_BOUNDS, () -> desk.pair(0, 0));
        check.throwing("run(1, 1)", Check.ILLEGAL_STATE, () -> desk.run(1, 1));
        objectsShareNothing(check);
        check.exitIfWrong();
    }

    private static void objectsShareNothing(Check check) {
        RendezvousDesk one = Desks.live(3);
        Desks.receive(one, 3, 0);
        one.step(3);
        one.tick();
        RendezvousDesk two = new RendezvousDesk();
        for (int what = 0; what <= 4; what++) {
            check.due("count(" + what + ") of another desk", 0, two.count(what));
        }
    }
}

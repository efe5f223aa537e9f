/** Promise 9: an offer that came to its end. */
public final class FinishTest {
    private static final int[] ENDS_THERE = {Desks.PUBLISHING, Desks.LOOKING, Desks.FIRST, Desks.ASLEEP};

    public static void main(String[] args) {
        Check check = new Check();
        notBeforeTheEnd(check);
        heldOnesAreRefused(check);
        pairedWithoutAStepBefore(check);
        closedWithoutAStepBefore(check);
        notWhileItHoldsSomething(check);
        partnersAtBothEnds(check);
        idleThen(check);
        tellerIsFinishedWhenTheOtherIsGone(check);
        check.exitIfWrong();
    }

    /** "UnsupportedOperationException, when it did not": OPEN, or at CLOSING, or idle. */
    private static void notBeforeTheEnd(Check check) {
        for (int place = Desks.PUBLISHING; place <= Desks.IDLE; place++) {
            if (place != Desks.END) {
                int at = place;
                check.refused("finish(5) at " + at, Check.UNSUPPORTED, () -> Desks.fiveAt(at),
                        desk -> desk.finish(5));
            }
        }
        check.due("finish(5) at the end", 2, Desks.fiveAt(Desks.END).finish(5));
    }

    private static void heldOnesAreRefused(Check check) {
        check.refused("finish(2), held at LOOKING", Check.UNSUPPORTED,
                () -> Desks.fiveAt(Desks.TELLING), desk -> desk.finish(2));
        check.refused("finish(1), held by itself", Check.UNSUPPORTED,
                () -> Desks.tellerAt(Desks.SECOND), desk -> desk.finish(1));
        check.refused("finish(1) at CLOSING", Check.UNSUPPORTED,
                () -> Desks.tellerAt(Desks.CLOSING), desk -> desk.finish(1));
    }

    /** "(a step answers 2 or 3, or would)": 2 would. */
    private static void pairedWithoutAStepBefore(Check check) {
        for (int place : ENDS_THERE) {
            check.due("finish(2), paired at " + place, 5, Desks.twoPairedAt(place).finish(2));
            RendezvousDesk stepped = Desks.twoPairedAt(place);
            check.steps(stepped, 2, 2);
            check.due("finish(2) behind that step", 5, stepped.finish(2));
        }
    }

    /** "its partner, or NONE when it was closed by its time": 3 would. */
    private static void closedWithoutAStepBefore(Check check) {
        for (int place : ENDS_THERE) {
            check.due("finish(5), closed at " + place, Desks.NONE, Desks.fiveClosedAt(place).finish(5));
            RendezvousDesk stepped = Desks.fiveClosedAt(place);
            check.steps(stepped, 5, 3);
            check.due("finish(5) behind that step", Desks.NONE, stepped.finish(5));
        }
    }

    /** At SECOND and BACK a step would answer 0, whatever its own state is. */
    private static void notWhileItHoldsSomething(Check check) {
        int[] places = {Desks.SECOND, Desks.BACK};
        for (int place : places) {
            check.refused("finish(5), paired at " + place, Check.UNSUPPORTED,
                    () -> Desks.fivePairedAt(place), desk -> desk.finish(5));
            check.refused("finish(5), closed at " + place, Check.UNSUPPORTED, () -> {
                RendezvousDesk desk = Desks.fiveClosedAt(Desks.SECOND);
                Desks.stepTo(desk, 5, place);
                return desk;
            }, desk -> desk.finish(5));
        }
        RendezvousDesk paired = Desks.fivePairedAt(Desks.BACK);
        paired.step(5);
        check.due("finish(5), paired behind BACK", 7, paired.finish(5));
        RendezvousDesk closed = Desks.fiveClosedAt(Desks.SECOND);
        Desks.steps(closed, 5, 2);
        check.due("finish(5), closed behind BACK", Desks.NONE, closed.finish(5));
    }

    private static void partnersAtBothEnds(Check check) {
        RendezvousDesk desk = Desks.live(0, 15);
        Desks.send(desk, 0, 7, 1);
        Desks.receive(desk, 15, 7);
        desk.run(2, 100);
        check.due("finish(15)", 0, desk.finish(15));
        check.due("finish(0)", 15, desk.finish(0));
    }

    /** "the process is idle then, without guards, ticks 0" */
    private static void idleThen(Check check) {
        RendezvousDesk desk = Desks.fiveAt(Desks.END);
        check.due("entries before", 3, desk.count(3));
        check.due("finish(5)", 2, desk.finish(5));
        check.process(desk, 5, Desks.CLOSED, 1, Desks.NONE, Desks.IDLE, Desks.NONE, Desks.NONE, 0);
        check.list(desk, 3, new int[] {2, 1, 0});
        check.list(desk, 4);
        check.due("offers", 1, desk.count(1));
        check.due("pairs stay", 1, desk.count(2));
        check.throwing("finish(5) again", Check.UNSUPPORTED, () -> desk.finish(5));
        check.steps(desk, 5, 4);
        check.due("without guards", 0, desk.guard(5, 0, 0, 0, true));
        check.due("ticks 0", 0, desk.timeout(5, 7));
        check.due("the next version", 2, desk.offer(5));
        check.process(desk, 5, Desks.OPEN, 2, Desks.NONE, Desks.PUBLISHING, Desks.NONE, Desks.NONE, 0);
        check.process(desk, 2, Desks.PAIRED, 1, Desks.NONE, Desks.LOOKING, 5, 0, 0);
        check.due("finish(2)", 5, desk.finish(2));
    }

    /** What was told stays told, though the other has a new offer before CLOSING. */
    private static void tellerIsFinishedWhenTheOtherIsGone(Check check) {
        RendezvousDesk desk = Desks.tellerAt(Desks.CLOSING);
        check.due("finish(2)", 1, desk.finish(2));
        Desks.send(desk, 2, 0, 99);
        check.steps(desk, 1, 2);
        check.process(desk, 1, Desks.PAIRED, 1, Desks.NONE, Desks.END, 2, 0, 10);
        check.due("finish(1)", 2, desk.finish(1));
        check.process(desk, 2, Desks.OPEN, 2, Desks.NONE, Desks.PUBLISHING);
    }
}

/**
 * Promise 6, at FIRST, SECOND and BACK: each state that the claimed one may have, as the lower and as
 * the higher of both. A process that stays CLEAN sleeps at the end of its round, another looks again.
 */
public final class ClaimTest {
    public static void main(String[] args) {
        Check check = new Check();
        theLowerNumberFirst(check);
        otherFirstOpen(check);
        otherFirstHeld(check);
        otherFirstPaired(check);
        otherFirstClosed(check);
        otherFirstCancelled(check);
        otherFirstOfAnOlderOffer(check);
        selfFirstOpen(check);
        selfFirstHeld(check);
        selfFirstPairedOrClosed(check);
        otherSecondOpen(check);
        otherSecondHeld(check);
        otherSecondHeldByItself(check);
        otherSecondPaired(check);
        otherSecondClosed(check);
        otherSecondCancelled(check);
        otherSecondOfAnOlderOffer(check);
        selfSecondOpen(check);
        selfSecondHeld(check);
        selfSecondPaired(check);
        selfSecondClosed(check);
        check.exitIfWrong();
    }

    /** "FIRST: the one with the lower number of both processes", whoever of them looks. */
    private static void theLowerNumberFirst(Check check) {
        int[][] both = {{0, 1}, {0, 15}, {7, 8}, {14, 15}};
        for (int[] of : both) {
            claimed(check, of[0], of[1], of[0]);
            claimed(check, of[1], of[0], of[0]);
        }
    }

    private static void claimed(Check check, int looks, int waits, int first) {
        RendezvousDesk desk = Desks.live(looks, waits);
        Desks.send(desk, waits, 3, 20);
        desk.step(waits);
        Desks.receive(desk, looks, 3);
        Desks.stepTo(desk, looks, Desks.SECOND);
        int second = looks + waits - first;
        check.process(desk, first, Desks.HELD, 1, looks);
        check.process(desk, second, Desks.OPEN, 1, Desks.NONE);
        check.steps(desk, looks, 0);
        check.process(desk, first, Desks.HELD, 1, looks);
        check.process(desk, second, Desks.HELD, 1, looks);
        check.place(desk, looks, Desks.TELLING);
    }

    /** 5 is at FIRST with 2, whose entry is the first of channel 3; 5's own is the second. */
    private static RendezvousDesk fiveAtFirst(int ticksOfTwo) {
        RendezvousDesk desk = Desks.live(2, 5, 7);
        desk.timeout(2, ticksOfTwo);
        Desks.send(desk, 2, 3, 20);
        desk.step(2);
        Desks.receive(desk, 5, 3);
        Desks.stepTo(desk, 5, Desks.FIRST);
        return desk;
    }

    private static void otherFirstOpen(Check check) {
        RendezvousDesk desk = fiveAtFirst(0);
        check.steps(desk, 5, 0);
        check.process(desk, 5, Desks.OPEN, 1, Desks.NONE, Desks.SECOND);
        check.process(desk, 2, Desks.HELD, 1, 5, Desks.LOOKING, Desks.NONE, Desks.NONE, 0);
    }

    /** "not CLEAN if its version was right and it was HELD": it looks again from the first entry. */
    private static void otherFirstHeld(Check check) {
        RendezvousDesk desk = fiveAtFirst(0);
        Desks.receive(desk, 7, 3);
        Desks.stepTo(desk, 7, Desks.SECOND);
        check.steps(desk, 5, 0);
        check.place(desk, 5, Desks.LOOKING);
        check.process(desk, 2, Desks.HELD, 1, 7);
        // Its own entry, 7's, none; then the first entry again.
        check.steps(desk, 5, 0, 0, 0);
        check.place(desk, 5, Desks.LOOKING);
        check.steps(desk, 5, 0);
        check.place(desk, 5, Desks.FIRST);
    }

    private static void otherFirstPaired(Check check) {
        RendezvousDesk desk = fiveAtFirst(0);
        Desks.receive(desk, 7, 3);
        Desks.stepTo(desk, 7, Desks.CLOSING);
        check.steps(desk, 5, 0);
        check.place(desk, 5, Desks.LOOKING);
        check.process(desk, 2, Desks.PAIRED, 1, Desks.NONE, Desks.LOOKING, 7, 0, 0);
        check.steps(desk, 5, 0, 0, 1);
    }

    private static void otherFirstClosed(Check check) {
        RendezvousDesk desk = fiveAtFirst(1);
        desk.tick();
        check.steps(desk, 5, 0);
        check.place(desk, 5, Desks.LOOKING);
        check.process(desk, 2, Desks.CLOSED, 1, Desks.NONE);
        check.steps(desk, 5, 0, 1);
    }

    /** The version is right, but the state is CLOSED; the list is one shorter. */
    private static void otherFirstCancelled(Check check) {
        RendezvousDesk desk = fiveAtFirst(0);
        desk.cancel(2);
        check.steps(desk, 5, 0);
        check.place(desk, 5, Desks.LOOKING);
        check.process(desk, 2, Desks.CLOSED, 1, Desks.NONE, Desks.IDLE);
        check.steps(desk, 5, 0, 0, 1);
    }

    /** "when it has the version of the entry": one less is not enough, though it is OPEN. */
    private static void otherFirstOfAnOlderOffer(Check check) {
        RendezvousDesk desk = fiveAtFirst(0);
        desk.cancel(2);
        Desks.send(desk, 2, 3, 21);
        check.steps(desk, 5, 0);
        check.place(desk, 5, Desks.LOOKING);
        check.process(desk, 2, Desks.OPEN, 2, Desks.NONE);
    }

    /** 1 is at FIRST with 2, whose entry is the second of channel 0; 1's own is the first. */
    private static RendezvousDesk oneAtFirst(int ticks) {
        RendezvousDesk desk = Desks.live(1, 2, 3);
        desk.timeout(1, ticks);
        Desks.receive(desk, 1, 0);
        desk.step(1);
        Desks.send(desk, 2, 0, 20);
        desk.step(2);
        Desks.stepTo(desk, 1, Desks.FIRST);
        return desk;
    }

    private static void selfFirstOpen(Check check) {
        RendezvousDesk desk = oneAtFirst(0);
        check.steps(desk, 1, 0);
        check.process(desk, 1, Desks.HELD, 1, 1, Desks.SECOND);
        check.process(desk, 2, Desks.OPEN, 1, Desks.NONE);
    }

    /** Its own state is HELD by 3: it looks on and is not CLEAN. */
    private static void selfFirstHeld(Check check) {
        RendezvousDesk desk = oneAtFirst(0);
        Desks.send(desk, 3, 0, 30);
        Desks.stepTo(desk, 3, Desks.SECOND);
        check.process(desk, 1, Desks.HELD, 1, 3, Desks.FIRST);
        check.steps(desk, 1, 0);
        check.process(desk, 1, Desks.HELD, 1, 3, Desks.LOOKING);
        // 3's entry: FIRST again, and not good again; then none, and not asleep.
        check.steps(desk, 1, 0);
        check.place(desk, 1, Desks.FIRST);
        check.steps(desk, 1, 0, 0);
        check.place(desk, 1, Desks.LOOKING);
        check.steps(desk, 3, 0, 0, 2);
        check.steps(desk, 1, 2);
    }

    private static void selfFirstPairedOrClosed(Check check) {
        RendezvousDesk paired = oneAtFirst(0);
        Desks.send(paired, 3, 0, 30);
        Desks.stepTo(paired, 3, Desks.CLOSING);
        check.place(paired, 1, Desks.FIRST);
        check.steps(paired, 1, 2);
        RendezvousDesk closed = oneAtFirst(1);
        closed.tick();
        check.steps(closed, 1, 3);
        check.process(closed, 2, Desks.OPEN, 1, Desks.NONE);
    }

    /** 1 holds itself and is at SECOND with 2; 2's entry is the first of channel 0, 1's the second. */
    private static RendezvousDesk oneAtSecond(int ticksOfTwo) {
        RendezvousDesk desk = Desks.live(1, 2, 3);
        desk.timeout(2, ticksOfTwo);
        Desks.send(desk, 2, 0, 20);
        desk.step(2);
        Desks.receive(desk, 1, 0);
        Desks.stepTo(desk, 1, Desks.SECOND);
        return desk;
    }

    private static void otherSecondOpen(Check check) {
        RendezvousDesk desk = oneAtSecond(0);
        check.steps(desk, 1, 0);
        check.process(desk, 1, Desks.HELD, 1, 1, Desks.TELLING);
        check.process(desk, 2, Desks.HELD, 1, 1, Desks.LOOKING);
    }

    /** "Else at BACK, and not CLEAN if, with the right version, it was HELD." */
    private static void otherSecondHeld(Check check) {
        RendezvousDesk desk = oneAtSecond(0);
        Desks.receive(desk, 3, 0);
        Desks.stepTo(desk, 3, Desks.SECOND);
        check.process(desk, 2, Desks.HELD, 1, 3);
        goesBack(check, desk);
        check.process(desk, 2, Desks.HELD, 1, 3);
        // Its own entry, 3's, none; then the first entry again.
        check.steps(desk, 1, 0, 0, 0);
        check.place(desk, 1, Desks.LOOKING);
        check.steps(desk, 1, 0);
        check.place(desk, 1, Desks.FIRST);
    }

    /** 1 is at BACK with itself still held, and OPEN again at LOOKING with the next step. */
    private static void goesBack(Check check, RendezvousDesk desk) {
        check.steps(desk, 1, 0);
        check.process(desk, 1, Desks.HELD, 1, 1, Desks.BACK, Desks.NONE, Desks.NONE, 0);
        check.steps(desk, 1, 0);
        check.process(desk, 1, Desks.OPEN, 1, Desks.NONE, Desks.LOOKING, Desks.NONE, Desks.NONE, 0);
    }

    private static void otherSecondHeldByItself(Check check) {
        RendezvousDesk desk = oneAtSecond(0);
        Desks.receive(desk, 3, 0);
        desk.step(3);
        // 2 looks at its own entry and at 1's, which is held by itself, and then at 3's.
        Desks.steps(desk, 2, 4);
        check.place(desk, 2, Desks.FIRST);
        check.steps(desk, 2, 0);
        check.process(desk, 2, Desks.HELD, 1, 2, Desks.SECOND);
        goesBack(check, desk);
        check.process(desk, 2, Desks.HELD, 1, 2, Desks.SECOND);
        check.steps(desk, 1, 0, 0, 0);
        check.place(desk, 1, Desks.LOOKING);
    }

    private static void otherSecondPaired(Check check) {
        RendezvousDesk desk = oneAtSecond(0);
        Desks.receive(desk, 3, 0);
        Desks.stepTo(desk, 3, Desks.CLOSING);
        goesBack(check, desk);
        check.process(desk, 2, Desks.PAIRED, 1, Desks.NONE, Desks.LOOKING, 3, 0, 0);
        check.steps(desk, 1, 0, 0, 1);
    }

    private static void otherSecondClosed(Check check) {
        RendezvousDesk desk = oneAtSecond(1);
        check.due("tick()", 1, desk.tick());
        goesBack(check, desk);
        check.process(desk, 2, Desks.CLOSED, 1, Desks.NONE);
        check.steps(desk, 1, 0, 1);
    }

    private static void otherSecondCancelled(Check check) {
        RendezvousDesk desk = oneAtSecond(0);
        check.due("cancel(2)", true, desk.cancel(2));
        goesBack(check, desk);
        check.process(desk, 2, Desks.CLOSED, 1, Desks.NONE, Desks.IDLE);
        check.steps(desk, 1, 0, 0, 1);
    }

    private static void otherSecondOfAnOlderOffer(Check check) {
        RendezvousDesk desk = oneAtSecond(0);
        desk.cancel(2);
        Desks.send(desk, 2, 0, 21);
        goesBack(check, desk);
        check.process(desk, 2, Desks.OPEN, 2, Desks.NONE);
        check.due("pairs", 0, desk.count(2));
    }

    private static void selfSecondOpen(Check check) {
        RendezvousDesk desk = Desks.fiveAt(Desks.SECOND);
        check.steps(desk, 5, 0);
        check.process(desk, 5, Desks.HELD, 1, 5, Desks.TELLING);
        check.process(desk, 2, Desks.HELD, 1, 5);
    }

    /** Held by 7, 5 gives 2 back; it is not CLEAN, though nothing is HELD any more later. */
    private static void selfSecondHeld(Check check) {
        RendezvousDesk desk = Desks.fiveAt(Desks.SECOND);
        desk.timeout(7, 1);
        Desks.receive(desk, 7, 4);
        Desks.stepTo(desk, 7, Desks.SECOND);
        check.steps(desk, 5, 0);
        check.process(desk, 5, Desks.HELD, 1, 7, Desks.BACK);
        check.process(desk, 2, Desks.HELD, 1, 5);
        check.steps(desk, 5, 0);
        check.process(desk, 5, Desks.HELD, 1, 7, Desks.LOOKING);
        check.process(desk, 2, Desks.OPEN, 1, Desks.NONE);
        check.due("7 is closed", 1, desk.tick());
        Desks.steps(desk, 7, 2);
        check.process(desk, 5, Desks.OPEN, 1, Desks.NONE, Desks.LOOKING);
        // Its own entry and none for guard 0, its own entry and 7's for guard 1.
        check.steps(desk, 5, 0, 0, 0, 0);
        check.place(desk, 5, Desks.FIRST);
        // Itself, then 7, which is closed; back, and none: only SECOND keeps it from sleeping.
        check.steps(desk, 5, 0, 0, 0, 0);
        check.place(desk, 5, Desks.LOOKING);
        check.steps(desk, 5, 0);
        check.place(desk, 5, Desks.FIRST);
    }

    private static void selfSecondPaired(Check check) {
        RendezvousDesk desk = Desks.fivePairedAt(Desks.SECOND);
        check.process(desk, 5, Desks.PAIRED, 1, Desks.NONE, Desks.SECOND, 7, 1, 0);
        check.steps(desk, 5, 0);
        check.process(desk, 5, Desks.PAIRED, 1, Desks.NONE, Desks.BACK, 7, 1, 0);
        check.process(desk, 2, Desks.HELD, 1, 5);
        check.steps(desk, 5, 0);
        check.process(desk, 5, Desks.PAIRED, 1, Desks.NONE, Desks.LOOKING, 7, 1, 0);
        check.process(desk, 2, Desks.OPEN, 1, Desks.NONE);
        check.steps(desk, 5, 2);
    }

    private static void selfSecondClosed(Check check) {
        RendezvousDesk desk = Desks.fiveClosedAt(Desks.SECOND);
        check.process(desk, 5, Desks.CLOSED, 1, Desks.NONE, Desks.SECOND);
        check.steps(desk, 5, 0);
        check.process(desk, 5, Desks.CLOSED, 1, Desks.NONE, Desks.BACK);
        check.process(desk, 2, Desks.HELD, 1, 5);
        check.steps(desk, 5, 0);
        check.process(desk, 5, Desks.CLOSED, 1, Desks.NONE, Desks.LOOKING);
        check.process(desk, 2, Desks.OPEN, 1, Desks.NONE);
        check.steps(desk, 5, 3);
    }
}

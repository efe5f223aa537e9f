/** Promise 10: what is told of a process. */
public final class ProcessTest {
    public static void main(String[] args) {
        Check check = new Check();
        anotherWhat(check);
        everyPlace(check);
        everyState(check);
        holders(check);
        ofPairedOnes(check);
        notPaired(check);
        check.exitIfWrong();
    }

    /** "IndexOutOfBoundsException, for another what": 0 to 6 are there, -1 and 7 are not. */
    private static void anotherWhat(Check check) {
        int[] none = {-1, 7, Integer.MIN_VALUE, Integer.MAX_VALUE};
        for (int what : none) {
            check.refused("process(5, " + what + ")", Check.OUT_OF_BOUNDS,
                    () -> Desks.fiveAt(Desks.SECOND), desk -> desk.process(5, what));
            check.refused("process(0, " + what + ")", Check.OUT_OF_BOUNDS, () -> Desks.live(0),
                    desk -> desk.process(0, what));
        }
        check.process(Desks.live(0), 0, Desks.CLOSED, 0, Desks.NONE, Desks.IDLE, Desks.NONE, Desks.NONE, 0);
    }

    /** "where it is (3: 0 to 8; 9 idle)" */
    private static void everyPlace(Check check) {
        int[] numbers = {0, 1, 2, 3, 4, 5, 6, 7, 8, 9};
        for (int place : numbers) {
            check.due("process(5, 3)", place, Desks.fiveAt(place).process(5, 3));
        }
        check.due("with the next step", Desks.LOOKING, Desks.twoPairedAt(Desks.LOOKING).process(2, 3));
    }

    /** "0 CLOSED, 1 OPEN, 2 HELD by a process, 3 PAIRED" */
    private static void everyState(Check check) {
        check.due("idle", 0, Desks.live(5).process(5, 0));
        check.due("open", 1, Desks.fiveAt(Desks.PUBLISHING).process(5, 0));
        check.due("held", 2, Desks.fiveAt(Desks.TELLING).process(5, 0));
        check.due("paired", 3, Desks.fiveAt(Desks.END).process(5, 0));
        check.due("closed by its time", 0, Desks.fiveClosedAt(Desks.LOOKING).process(5, 0));
    }

    /** "who holds it (2; NONE)": 0 and 15 hold as others do. */
    private static void holders(Check check) {
        RendezvousDesk desk = Desks.live(0, 15);
        Desks.send(desk, 0, 2, 5);
        desk.step(0);
        Desks.receive(desk, 15, 2);
        check.due("nobody", Desks.NONE, desk.process(0, 2));
        Desks.stepTo(desk, 15, Desks.SECOND);
        check.due("15 holds 0", 15, desk.process(0, 2));
        check.due("nobody", Desks.NONE, desk.process(15, 2));
        desk.step(15);
        check.due("15 holds itself", 15, desk.process(15, 2));
        desk.step(15);
        check.due("told, nobody holds it", Desks.NONE, desk.process(0, 2));
        check.due("15 holds itself", 15, desk.process(15, 2));
        desk.step(15);
        check.due("nobody", Desks.NONE, desk.process(15, 2));
        RendezvousDesk turned = Desks.live(0, 15);
        Desks.send(turned, 15, 2, 5);
        turned.step(15);
        Desks.receive(turned, 0, 2);
        Desks.stepTo(turned, 0, Desks.TELLING);
        check.due("0 holds itself", 0, turned.process(0, 2));
        check.due("0 holds 15", 0, turned.process(15, 2));
    }

    /** "its partner (4), its guard that was paired (5), the value it received (6; 0 when it sent)" */
    private static void ofPairedOnes(Check check) {
        RendezvousDesk desk = Desks.live(3, 8);
        desk.guard(3, 0, 0, 0, true);
        desk.guard(3, 0, 1, 0, false);
        desk.guard(3, 1, 2, -44, true);
        desk.offer(3);
        desk.guard(8, 1, 1, 5, true);
        desk.guard(8, 0, 3, 66, true);
        desk.guard(8, 0, 4, 67, true);
        desk.guard(8, 0, 2, 77, true);
        desk.offer(8);
        desk.run(9, 400);
        check.process(desk, 3, Desks.PAIRED, 1, Desks.NONE, Desks.END, 8, 2, 0);
        check.process(desk, 8, Desks.PAIRED, 1, Desks.NONE, Desks.END, 3, 3, -44);
    }

    /** "4, 5 NONE and 6 0, when it is not PAIRED": before, while it closes, and behind a finish. */
    private static void notPaired(Check check) {
        for (int place = Desks.PUBLISHING; place <= Desks.IDLE; place++) {
            if (place != Desks.END) {
                RendezvousDesk desk = Desks.fiveAt(place);
                check.due("the partner at " + place, Desks.NONE, desk.process(5, 4));
                check.due("the guard at " + place, Desks.NONE, desk.process(5, 5));
                check.due("the value at " + place, 0, desk.process(5, 6));
            }
        }
        RendezvousDesk desk = Desks.fiveAt(Desks.END);
        check.process(desk, 5, Desks.PAIRED, 1, Desks.NONE, Desks.END, 2, 0, 20);
        desk.finish(5);
        check.process(desk, 5, Desks.CLOSED, 1, Desks.NONE, Desks.IDLE, Desks.NONE, Desks.NONE, 0);
        desk.timeout(5, 1);
        desk.offer(5);
        check.process(desk, 5, Desks.OPEN, 2, Desks.NONE, Desks.ASLEEP, Desks.NONE, Desks.NONE, 0);
        desk.tick();
        desk.step(5);
        check.process(desk, 5, Desks.CLOSED, 2, Desks.NONE, Desks.END, Desks.NONE, Desks.NONE, 0);
    }
}

/** Promise 7: a tick, and how many offers were closed by it. */
public final class TickTest {
    public static void main(String[] args) {
        Check check = new Check();
        manyAtOnce(check);
        fromTheOfferOn(check);
        theMostTicks(check);
        heldOnesAreAskedAgain(check);
        pairedOnesStay(check);
        check.exitIfWrong();
    }

    private static void manyAtOnce(Check check) {
        RendezvousDesk desk = Desks.live(0, 1, 2, 3, 15);
        int[] ticks = {2, 1, 0, 2};
        for (int p = 0; p < 4; p++) {
            desk.timeout(p, ticks[p]);
            Desks.receive(desk, p, p);
        }
        check.due("tick 1", 1, desk.tick());
        check.due("tick 2", 2, desk.tick());
        check.due("tick 3", 0, desk.tick());
        check.due("it waits for ever", Desks.OPEN, desk.process(2, 0));
        check.due("count(4)", 3, desk.count(4));
        check.due("offers not finished", 4, desk.count(1));
    }

    private static void fromTheOfferOn(Check check) {
        RendezvousDesk desk = Desks.live(8);
        desk.timeout(8, 2);
        desk.tick();
        desk.tick();
        Desks.receive(desk, 8, 0);
        check.due("the first tick of the offer", 0, desk.tick());
        check.due("the second", 1, desk.tick());
        check.due("finish(8)", Desks.NONE, desk.finish(8));
        desk.timeout(8, 2);
        desk.offer(8);
        check.due("the first of the next offer", 0, desk.tick());
        check.due("the second of the next offer", 1, desk.tick());
    }

    private static void theMostTicks(Check check) {
        RendezvousDesk desk = Desks.live(8);
        desk.timeout(8, 1000);
        desk.offer(8);
        int closed = 0;
        for (int i = 0; i < 400; i++) {
            closed += desk.tick();
        }
        check.due("400 ticks of 1000", 0, closed);
        check.due("count(4)", 400, desk.count(4));
    }

    private static void heldOnesAreAskedAgain(Check check) {
        RendezvousDesk desk = Desks.live(2, 5);
        desk.timeout(2, 1);
        Desks.send(desk, 2, 3, 20);
        desk.step(2);
        desk.timeout(5, 1);
        Desks.receive(desk, 5, 3);
        Desks.steps(desk, 5, 3);
        check.due("2 is held, 5 is open", 1, desk.tick());
        check.process(desk, 2, Desks.HELD, 1, 5);
        check.process(desk, 5, Desks.CLOSED, 1, Desks.NONE);
        Desks.steps(desk, 5, 2);
        check.process(desk, 2, Desks.OPEN, 1, Desks.NONE);
        check.due("2 is asked again", 1, desk.tick());
        check.process(desk, 2, Desks.CLOSED, 1, Desks.NONE);
    }

    private static void pairedOnesStay(Check check) {
        RendezvousDesk desk = Desks.live(1, 2);
        desk.timeout(1, 1);
        desk.timeout(2, 1);
        Desks.send(desk, 2, 0, 10);
        desk.step(2);
        Desks.receive(desk, 1, 0);
        Desks.steps(desk, 1, 5);
        check.due("paired and held", 0, desk.tick());
        desk.step(1);
        check.due("both paired", 0, desk.tick());
        check.steps(desk, 1, 2);
        check.steps(desk, 2, 2);
    }
}

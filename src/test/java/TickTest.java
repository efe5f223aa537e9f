/** Promise 7: a tick, and how many offers were closed by it. */
public final class TickTest {
    public static void main(String[] args) {
        Check check = new Check();
        withoutOffers(check);
        noTicksWaitForEver(check);
        oneShortAndJustEnough(check);
        asManyAsCallsAllow(check);
        theMostTicks(check);
        allAtOnce(check);
        someAtOnce(check);
        fromTheOfferOn(check);
        openOnesWhereverTheyAre(check);
        heldOnesAreAskedAgain(check);
        heldForManyTicks(check);
        pairedOnesStay(check);
        check.exitIfWrong();
    }

    private static void withoutOffers(Check check) {
        RendezvousDesk desk = new RendezvousDesk();
        check.due("none live", 0, desk.tick());
        check.due("count(4)", 1, desk.count(4));
        desk.spawn(0);
        desk.timeout(0, 1);
        check.due("idle", 0, desk.tick());
        check.due("idle", 0, desk.tick());
        check.process(desk, 0, Desks.CLOSED, 0, Desks.NONE, Desks.IDLE);
        check.due("count(4)", 3, desk.count(4));
    }

    /** "(0: it waits for ever)": as far as the calls of one object go. */
    private static void noTicksWaitForEver(Check check) {
        RendezvousDesk desk = Desks.live(2);
        Desks.receive(desk, 2, 0);
        int closed = 0;
        for (int i = 0; i < 500; i++) {
            closed += desk.tick();
        }
        check.due("closed", 0, closed);
        check.process(desk, 2, Desks.OPEN, 1);
        check.due("count(4)", 500, desk.count(4));
    }

    /** "an offer whose ticks have gone by": one tick before, at it, and one behind it. */
    private static void oneShortAndJustEnough(Check check) {
        int[] many = {1, 2, 3, 10};
        for (int ticks : many) {
            RendezvousDesk desk = Desks.live(2);
            desk.timeout(2, ticks);
            Desks.receive(desk, 2, 0);
            for (int i = 1; i < ticks; i++) {
                check.due("tick " + i + " of " + ticks, 0, desk.tick());
                check.due("it is open", Desks.OPEN, desk.process(2, 0));
            }
            check.steps(desk, 2, 0);
            check.due("tick " + ticks + " of " + ticks, 1, desk.tick());
            check.process(desk, 2, Desks.CLOSED, 1, Desks.NONE, Desks.LOOKING);
            check.due("closed already", 0, desk.tick());
            check.steps(desk, 2, 3);
        }
    }

    /** spawn, timeout, offer, 508 ticks and a step: 512 calls. */
    private static void asManyAsCallsAllow(Check check) {
        RendezvousDesk desk = Desks.live(2);
        desk.timeout(2, 508);
        desk.offer(2);
        for (int i = 1; i < 508; i++) {
            check.due("tick " + i + " of 508", 0, desk.tick());
        }
        check.due("tick 508 of 508", 1, desk.tick());
        check.steps(desk, 2, 3);
    }

    private static void theMostTicks(Check check) {
        RendezvousDesk desk = Desks.live(8);
        desk.timeout(8, 1000);
        desk.offer(8);
        int closed = 0;
        for (int i = 0; i < 508; i++) {
            closed += desk.tick();
        }
        check.due("508 ticks of 1000", 0, closed);
        check.due("it is open", Desks.OPEN, desk.process(8, 0));
    }

    private static void allAtOnce(Check check) {
        RendezvousDesk desk = Desks.allLive();
        for (int p = 0; p < 16; p++) {
            desk.timeout(p, 2);
            Desks.receive(desk, p, p % 8);
        }
        check.due("tick 1", 0, desk.tick());
        check.due("tick 2", 16, desk.tick());
        check.due("tick 3", 0, desk.tick());
        for (int p = 0; p < 16; p++) {
            check.due("finish(" + p + ")", Desks.NONE, desk.finish(p));
        }
    }

    private static void someAtOnce(Check check) {
        RendezvousDesk desk = Desks.live(0, 1, 2, 3, 15);
        int[] ticks = {2, 1, 0, 2};
        for (int p = 0; p < 4; p++) {
            desk.timeout(p, ticks[p]);
            Desks.receive(desk, p, p);
        }
        check.due("tick 1", 1, desk.tick());
        check.due("tick 2", 2, desk.tick());
        check.due("tick 3", 0, desk.tick());
        check.due("it waits for ever", Desks.OPEN, desk.process(2, 0));
        check.due("count(4)", 3, desk.count(4));
        check.due("offers not finished", 4, desk.count(1));
    }

    /** Ticks before the offer are not the offer's, nor are those of the offer before it. */
    private static void fromTheOfferOn(Check check) {
        RendezvousDesk desk = Desks.live(8);
        desk.timeout(8, 2);
        desk.tick();
        desk.tick();
        Desks.receive(desk, 8, 0);
        check.due("the first tick of the offer", 0, desk.tick());
        check.due("the second", 1, desk.tick());
        check.due("finish(8)", Desks.NONE, desk.finish(8));
        desk.timeout(8, 2);
        desk.offer(8);
        check.due("the first of the next offer", 0, desk.tick());
        desk.cancel(8);
        desk.timeout(8, 2);
        desk.offer(8);
        check.due("the first of the offer behind a cancel", 0, desk.tick());
        check.due("the second of it", 1, desk.tick());
    }

    /** "and whose state is OPEN is CLOSED": at every place, but not when it is HELD or PAIRED. */
    private static void openOnesWhereverTheyAre(Check check) {
        for (int place = Desks.PUBLISHING; place <= Desks.END; place++) {
            RendezvousDesk desk = Desks.fiveAt(place);
            boolean open = desk.process(5, 0) == Desks.OPEN;
            int before = desk.process(5, 0);
            check.due("tick 1 at " + place, 0, desk.tick());
            check.due("tick 2 at " + place, 0, desk.tick());
            check.due("tick 3 at " + place, open ? 1 : 0, desk.tick());
            check.due("the state at " + place, open ? Desks.CLOSED : before, desk.process(5, 0));
            check.place(desk, 5, place);
        }
        RendezvousDesk back = Desks.fiveOpenAtBack();
        check.process(back, 5, Desks.OPEN, 1, Desks.NONE, Desks.BACK);
        check.due("tick 2 of 3, open at BACK", 0, back.tick());
        check.due("tick 3 of 3, open at BACK", 1, back.tick());
        check.process(back, 5, Desks.CLOSED, 1, Desks.NONE, Desks.BACK);
        check.process(back, 2, Desks.HELD, 1, 5);
        check.steps(back, 5, 0, 3);
        check.process(back, 2, Desks.OPEN, 1, Desks.NONE);
    }

    /** "(HELD ones are asked again at the next tick.)" */
    private static void heldOnesAreAskedAgain(Check check) {
        RendezvousDesk desk = Desks.live(2, 5);
        desk.timeout(2, 1);
        Desks.send(desk, 2, 3, 20);
        desk.step(2);
        desk.timeout(5, 1);
        Desks.receive(desk, 5, 3);
        Desks.steps(desk, 5, 3);
        check.due("2 is held, 5 is open", 1, desk.tick());
        check.process(desk, 2, Desks.HELD, 1, 5);
        check.process(desk, 5, Desks.CLOSED, 1, Desks.NONE);
        Desks.steps(desk, 5, 2);
        check.process(desk, 2, Desks.OPEN, 1, Desks.NONE);
        check.due("2 is asked again", 1, desk.tick());
        check.process(desk, 2, Desks.CLOSED, 1, Desks.NONE);
    }

    private static void heldForManyTicks(Check check) {
        RendezvousDesk desk = Desks.live(1, 2);
        desk.timeout(1, 2);
        Desks.send(desk, 2, 0, 10);
        desk.step(2);
        Desks.receive(desk, 1, 0);
        Desks.stepTo(desk, 1, Desks.SECOND);
        for (int i = 0; i < 6; i++) {
            check.due("held by itself", 0, desk.tick());
        }
        desk.cancel(2);
        Desks.steps(desk, 1, 2);
        check.process(desk, 1, Desks.OPEN, 1, Desks.NONE, Desks.LOOKING);
        check.due("open again", 1, desk.tick());
        check.steps(desk, 1, 3);
    }

    private static void pairedOnesStay(Check check) {
        RendezvousDesk desk = Desks.live(1, 2);
        desk.timeout(1, 1);
        desk.timeout(2, 1);
        Desks.send(desk, 2, 0, 10);
        desk.step(2);
        Desks.receive(desk, 1, 0);
        Desks.steps(desk, 1, 5);
        check.due("paired and held", 0, desk.tick());
        desk.step(1);
        check.due("both paired", 0, desk.tick());
        check.steps(desk, 1, 2);
        check.steps(desk, 2, 2);
    }
}

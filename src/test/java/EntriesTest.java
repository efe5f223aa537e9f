/** Terms: entries that go out of the lists, and who looks at these lists meanwhile. */
public final class EntriesTest {
    public static void main(String[] args) {
        Check check = new Check();
        outOfAFullListByCancel(check);
        outOfAFullListByFinish(check);
        interleavedEntriesMoveUp(check);
        theLastEntryGoes(check);
        oneThatHasNotPublishedAll(check);
        noProcessIsClean(check);
        notCleanWithoutEntries(check);
        cleanWhenItComesToLookLater(check);
        atFirstItIsNotCleanEither(check);
        anEntryBeforeTheNumberGoes(check);
        theEntryOfTheNumberGoes(check);
        anEntryBehindTheNumberGoes(check);
        theNumberIsBehindTheEnd(check);
        atFirstItKeepsTheNumber(check);
        check.exitIfWrong();
    }

    /** "An offer's entries go out of the lists, those behind them moving up, when it is cancelled" */
    private static void outOfAFullListByCancel(Check check) {
        int[] gone = {0, 7, 15};
        for (int p : gone) {
            RendezvousDesk desk = Desks.fullList(3, 0);
            check.due("count(3)", 64, desk.count(3));
            check.due("cancel(" + p + ")", true, desk.cancel(p));
            without(check, desk, p);
        }
    }

    /** "or finished" */
    private static void outOfAFullListByFinish(Check check) {
        int[] gone = {0, 7, 15};
        for (int p : gone) {
            RendezvousDesk desk = Desks.fullList(3, 1);
            check.due("tick()", 16, desk.tick());
            check.due("entries stay until the finish", 64, desk.count(3));
            check.due("finish(" + p + ")", Desks.NONE, desk.finish(p));
            without(check, desk, p);
        }
    }

    private static void without(Check check, RendezvousDesk desk, int gone) {
        check.due("count(3)", 60, desk.count(3));
        for (int i = 0; i < 60; i++) {
            int process = i / 4 < gone ? i / 4 : i / 4 + 1;
            check.due("waiting(3, " + i + ", 0)", process, desk.waiting(3, i, 0));
            check.due("waiting(3, " + i + ", 2)", i % 4, desk.waiting(3, i, 2));
        }
        check.throwing("waiting(3, 60, 0)", Check.OUT_OF_BOUNDS, () -> desk.waiting(3, 60, 0));
    }

    /** The entries of three processes stand by turns in two lists. */
    private static void interleavedEntriesMoveUp(Check check) {
        RendezvousDesk desk = Desks.live(1, 2, 3);
        desk.offer(3);
        desk.cancel(3);
        for (int p = 1; p <= 3; p++) {
            for (int g = 0; g < 4; g++) {
                desk.guard(p, 0, g == 1 ? 5 : 0, 0, true);
            }
            desk.offer(p);
        }
        for (int g = 0; g < 4; g++) {
            desk.step(2);
            desk.step(3);
            desk.step(1);
        }
        check.due("cancel(2)", true, desk.cancel(2));
        check.due("count(3)", 8, desk.count(3));
        check.list(desk, 0, new int[] {3, 2, 0}, new int[] {1, 1, 0}, new int[] {3, 2, 2},
                new int[] {1, 1, 2}, new int[] {3, 2, 3}, new int[] {1, 1, 3});
        check.list(desk, 5, new int[] {3, 2, 1}, new int[] {1, 1, 1});
        check.due("cancel(1)", true, desk.cancel(1));
        check.list(desk, 0, new int[] {3, 2, 0}, new int[] {3, 2, 2}, new int[] {3, 2, 3});
        check.list(desk, 5, new int[] {3, 2, 1});
    }

    private static void theLastEntryGoes(Check check) {
        RendezvousDesk desk = Desks.live(4);
        Desks.receive(desk, 4, 6);
        desk.step(4);
        check.list(desk, 6, new int[] {4, 1, 0});
        desk.cancel(4);
        check.list(desk, 6);
        check.due("count(3)", 0, desk.count(3));
        Desks.send(desk, 4, 6, 1);
        desk.step(4);
        check.list(desk, 6, new int[] {4, 2, 0});
    }

    /** A guard that was not yet published never is. */
    private static void oneThatHasNotPublishedAll(Check check) {
        RendezvousDesk desk = Desks.live(4);
        desk.guard(4, 0, 6, 0, true);
        desk.guard(4, 0, 7, 0, true);
        desk.offer(4);
        desk.step(4);
        desk.cancel(4);
        check.due("count(3)", 0, desk.count(3));
        check.steps(desk, 4, 4, 4);
        check.list(desk, 7);
    }

    /** "no process is CLEAN then": every one that looks, looks once more before it sleeps. */
    private static void noProcessIsClean(Check check) {
        RendezvousDesk desk = Desks.allLive();
        for (int p = 0; p < 16; p++) {
            Desks.receive(desk, p, p / 2);
            desk.step(p);
        }
        // Each looks at both entries of its list and would find none now.
        for (int p = 0; p < 15; p++) {
            Desks.steps(desk, p, 2);
        }
        desk.cancel(15);
        for (int p = 0; p < 15; p++) {
            check.steps(desk, p, 0);
            check.place(desk, p, Desks.LOOKING);
            int others = p == 14 ? 0 : 1;
            for (int i = 0; i <= others; i++) {
                check.steps(desk, p, 0);
            }
            check.steps(desk, p, 1);
        }
    }

    /** The same when the offer that ends had nothing in the lists. */
    private static void notCleanWithoutEntries(Check check) {
        RendezvousDesk desk = Desks.live(1, 2);
        Desks.receive(desk, 1, 0);
        Desks.steps(desk, 1, 2);
        desk.offer(2);
        check.due("cancel(2)", true, desk.cancel(2));
        check.steps(desk, 1, 0, 0, 1);
        desk.cancel(1);
        desk.timeout(2, 1);
        desk.offer(2);
        Desks.receive(desk, 1, 0);
        Desks.steps(desk, 1, 2);
        desk.tick();
        check.due("finish(2)", Desks.NONE, desk.finish(2));
        check.steps(desk, 1, 0, 0, 1);
    }

    /** One that is at PUBLISHING is CLEAN when it comes to LOOKING, one asleep stays asleep. */
    private static void cleanWhenItComesToLookLater(Check check) {
        RendezvousDesk desk = Desks.live(1, 2, 3);
        Desks.receive(desk, 1, 0);
        desk.offer(2);
        Desks.receive(desk, 3, 5);
        Desks.steps(desk, 3, 3);
        check.due("cancel(2)", true, desk.cancel(2));
        check.steps(desk, 1, 0, 0, 1);
        check.steps(desk, 3, 1);
    }

    /** 2 is closed when 5 asks at FIRST, which alone would leave 5 CLEAN. */
    private static void atFirstItIsNotCleanEither(Check check) {
        int[] places = {Desks.FIRST, Desks.SECOND};
        for (int place : places) {
            RendezvousDesk desk = Desks.live(1, 2, 5);
            desk.timeout(2, 1);
            Desks.send(desk, 2, 3, 20);
            desk.step(2);
            Desks.receive(desk, 1, 3);
            Desks.stepTo(desk, 1, place);
            desk.offer(5);
            desk.cancel(5);
            desk.tick();
            Desks.stepTo(desk, 1, Desks.LOOKING);
            // Its own entry, none; not asleep, but at the first entry again.
            check.steps(desk, 1, 0, 0);
            check.place(desk, 1, Desks.LOOKING);
            check.steps(desk, 1, 0);
            check.place(desk, 1, Desks.FIRST);
        }
    }

    /** Channel 6 has receives of 3 and 8, a send of 4 and the receive of 9, which looks there. */
    private static RendezvousDesk nineLooks(int looked) {
        RendezvousDesk desk = Desks.live(3, 4, 8, 9);
        Desks.receive(desk, 3, 6);
        desk.step(3);
        Desks.receive(desk, 8, 6);
        desk.step(8);
        Desks.send(desk, 4, 6, 44);
        desk.step(4);
        Desks.receive(desk, 9, 6);
        Desks.steps(desk, 9, 1 + looked);
        return desk;
    }

    /** "A process that looks at an entry of a list by its number goes on with that number." */
    private static void anEntryBeforeTheNumberGoes(Check check) {
        RendezvousDesk desk = nineLooks(2);
        desk.cancel(3);
        // 4's entry moved up to number 1, and 9 is at number 2: its own, then none, then again.
        check.steps(desk, 9, 0, 0, 0);
        check.place(desk, 9, Desks.LOOKING);
        check.steps(desk, 9, 0);
        check.place(desk, 9, Desks.FIRST);
        check.due("nobody is held", Desks.OPEN, desk.process(4, 0));
    }

    private static void theEntryOfTheNumberGoes(Check check) {
        RendezvousDesk desk = nineLooks(1);
        desk.cancel(8);
        // 4's entry moved up to number 1, where 9 is.
        check.steps(desk, 9, 0);
        check.place(desk, 9, Desks.FIRST);
    }

    private static void anEntryBehindTheNumberGoes(Check check) {
        RendezvousDesk desk = nineLooks(0);
        desk.cancel(8);
        check.steps(desk, 9, 0);
        check.place(desk, 9, Desks.LOOKING);
        check.steps(desk, 9, 0);
        check.place(desk, 9, Desks.FIRST);
    }

    /** 9 is at number 2 of a list that has one entry then: no such entry, so it looks again. */
    private static void theNumberIsBehindTheEnd(Check check) {
        RendezvousDesk desk = Desks.live(3, 8, 9);
        Desks.receive(desk, 3, 6);
        desk.step(3);
        Desks.receive(desk, 8, 6);
        desk.step(8);
        Desks.receive(desk, 9, 6);
        Desks.steps(desk, 9, 3);
        desk.cancel(3);
        desk.cancel(8);
        check.list(desk, 6, new int[] {9, 1, 0});
        check.steps(desk, 9, 0, 0, 1);
    }

    /** At FIRST with number 2, which fails: on with number 3, though all moved up by one. */
    private static void atFirstItKeepsTheNumber(Check check) {
        RendezvousDesk desk = nineLooks(3);
        check.place(desk, 9, Desks.FIRST);
        desk.cancel(4);
        Desks.send(desk, 4, 6, 45);
        desk.step(4);
        // The list is 3, 8, 9 and 4's new entry, which has number 3.
        check.steps(desk, 9, 0);
        check.place(desk, 9, Desks.LOOKING);
        check.steps(desk, 9, 0);
        check.place(desk, 9, Desks.FIRST);
        check.steps(desk, 9, 0, 0, 0, 2);
        check.due("the value of the newer offer", 45, desk.process(9, 6));
    }
}

/** Promise 6, at PUBLISHING and LOOKING: where the guards and the lists begin and end. */
public final class LookingTest {
    public static void main(String[] args) {
        Check check = new Check();
        publishingToTheEnd(check);
        behindTheLastGuard(check);
        theOnlyEntryIsItsOwn(check);
        itsOwnGuardsMatchButAreItsOwn(check);
        entriesThatDoNotMatch(check);
        firstEntry(check);
        lastEntryOfAFullList(check);
        aListOneShortOfFull(check);
        nextGuardFromItsFirstEntry(check);
        againWhenNotClean(check);
        asleepDoesNothing(check);
        check.exitIfWrong();
    }

    /** "an entry with it comes to the end of its channel's list" */
    private static void publishingToTheEnd(Check check) {
        RendezvousDesk desk = Desks.live(0, 9);
        desk.guard(0, 0, 2, 0, true);
        desk.guard(0, 0, 2, 0, true);
        desk.offer(0);
        desk.guard(9, 1, 2, 5, true);
        desk.guard(9, 0, 7, 5, true);
        desk.offer(9);
        check.list(desk, 2);
        check.steps(desk, 9, 0);
        check.list(desk, 2, new int[] {9, 1, 0});
        check.steps(desk, 0, 0);
        check.steps(desk, 9, 0);
        check.steps(desk, 0, 0);
        check.list(desk, 2, new int[] {9, 1, 0}, new int[] {0, 1, 0}, new int[] {0, 1, 1});
        check.list(desk, 7, new int[] {9, 1, 1});
    }

    /** "Behind the last guard it is at LOOKING, at the first entry for the first guard, CLEAN." */
    private static void behindTheLastGuard(Check check) {
        for (int many = 1; many <= 4; many++) {
            RendezvousDesk desk = Desks.live(4, 6);
            Desks.send(desk, 4, 0, 40);
            desk.step(4);
            for (int g = 0; g < many; g++) {
                desk.guard(6, 0, g, 0, true);
            }
            desk.offer(6);
            Desks.steps(desk, 6, many - 1);
            check.place(desk, 6, Desks.PUBLISHING);
            check.steps(desk, 6, 0);
            check.place(desk, 6, Desks.LOOKING);
            check.steps(desk, 6, 0);
            check.place(desk, 6, Desks.FIRST);
        }
    }

    private static void theOnlyEntryIsItsOwn(Check check) {
        RendezvousDesk desk = Desks.live(3);
        Desks.receive(desk, 3, 1);
        check.steps(desk, 3, 0);
        check.place(desk, 3, Desks.LOOKING);
        check.steps(desk, 3, 0);
        check.place(desk, 3, Desks.LOOKING);
        check.steps(desk, 3, 1);
        check.place(desk, 3, Desks.ASLEEP);
    }

    /** "and it is another process's" */
    private static void itsOwnGuardsMatchButAreItsOwn(Check check) {
        RendezvousDesk desk = Desks.live(3);
        desk.guard(3, 1, 1, 30, true);
        desk.guard(3, 0, 1, 0, true);
        desk.offer(3);
        // Two published, then for each guard two entries and the end of the list.
        check.steps(desk, 3, 0, 0, 0, 0, 0, 0, 0, 1, 1);
        check.place(desk, 3, Desks.ASLEEP);
        check.due("pairs", 0, desk.count(2));
    }

    /** "and its guard matches: it is at FIRST with it; when it does not, at the next entry" */
    private static void entriesThatDoNotMatch(Check check) {
        RendezvousDesk desk = Desks.live(3, 4);
        Desks.send(desk, 4, 1, 40);
        desk.step(4);
        desk.guard(3, 1, 1, 30, true);
        desk.guard(3, 0, 1, 0, true);
        desk.offer(3);
        Desks.steps(desk, 3, 2);
        // For guard 0: the other's send, its own two entries, and the end of the list.
        for (int i = 0; i < 4; i++) {
            check.steps(desk, 3, 0);
            check.place(desk, 3, Desks.LOOKING);
        }
        check.steps(desk, 3, 0);
        check.place(desk, 3, Desks.FIRST);
        check.process(desk, 4, Desks.OPEN, 1, Desks.NONE);
        check.process(desk, 3, Desks.OPEN, 1, Desks.NONE);
    }

    private static void firstEntry(Check check) {
        RendezvousDesk desk = Desks.live(3, 4);
        Desks.send(desk, 4, 1, 40);
        desk.step(4);
        Desks.receive(desk, 3, 1);
        check.steps(desk, 3, 0, 0);
        check.place(desk, 3, Desks.FIRST);
    }

    /** All guards on channel 0 are receives but the last one of 15, which is a send, or off. */
    private static RendezvousDesk almostAllReceive(boolean lastOn) {
        RendezvousDesk desk = Desks.allLive();
        for (int p = 0; p < 16; p++) {
            for (int g = 0; g < 4; g++) {
                boolean last = p == 15 && g == 3;
                desk.guard(p, last ? 1 : 0, 0, 0, !last || lastOn);
            }
            desk.offer(p);
            Desks.steps(desk, p, p == 15 && !lastOn ? 3 : 4);
        }
        return desk;
    }

    private static void lastEntryOfAFullList(Check check) {
        RendezvousDesk desk = almostAllReceive(true);
        check.due("entries", 64, desk.count(3));
        for (int i = 0; i < 63; i++) {
            check.steps(desk, 0, 0);
            check.place(desk, 0, Desks.LOOKING);
        }
        check.steps(desk, 0, 0);
        check.place(desk, 0, Desks.FIRST);
        check.steps(desk, 0, 0, 0, 0, 2);
        check.process(desk, 15, Desks.PAIRED, 1, Desks.NONE, Desks.LOOKING, 0, 3, 0);
    }

    /** "Without such an entry": each of four guards looks at 63 entries and at none behind them. */
    private static void aListOneShortOfFull(Check check) {
        RendezvousDesk desk = almostAllReceive(false);
        check.due("entries", 63, desk.count(3));
        for (int i = 1; i < 4 * 64; i++) {
            check.steps(desk, 0, 0);
        }
        check.place(desk, 0, Desks.LOOKING);
        check.steps(desk, 0, 1);
        check.place(desk, 0, Desks.ASLEEP);
    }

    /** "at the first one for the next guard": the number starts again, the guards that are off pass. */
    private static void nextGuardFromItsFirstEntry(Check check) {
        RendezvousDesk desk = Desks.live(2, 3, 4);
        Desks.receive(desk, 2, 0);
        desk.step(2);
        Desks.send(desk, 4, 7, 40);
        desk.step(4);
        desk.guard(3, 0, 0, 0, true);
        desk.guard(3, 0, 5, 0, false);
        desk.guard(3, 0, 7, 0, true);
        desk.offer(3);
        // Two published; on channel 0 the other's, its own and none; on channel 7 the first.
        check.steps(desk, 3, 0, 0, 0, 0, 0);
        check.place(desk, 3, Desks.LOOKING);
        check.steps(desk, 3, 0);
        check.place(desk, 3, Desks.FIRST);
        check.steps(desk, 3, 0, 0, 0, 2);
        check.process(desk, 3, Desks.PAIRED, 1, Desks.NONE, Desks.END, 4, 2, 40);
    }

    /** "when it is CLEAN, ASLEEP; else at the first entry for the first guard, and CLEAN" */
    private static void againWhenNotClean(Check check) {
        for (int cancels = 0; cancels <= 3; cancels++) {
            RendezvousDesk desk = Desks.live(1, 2);
            Desks.receive(desk, 1, 0);
            desk.step(1);
            for (int i = 0; i < cancels; i++) {
                desk.step(1);
                desk.offer(2);
                desk.cancel(2);
                check.steps(desk, 1, 0);
                check.place(desk, 1, Desks.LOOKING);
            }
            check.steps(desk, 1, 0, 1);
            check.place(desk, 1, Desks.ASLEEP);
        }
    }

    /** "7 ASLEEP: nothing.": a match that comes later is for the other to find. */
    private static void asleepDoesNothing(Check check) {
        RendezvousDesk desk = Desks.live(1, 2, 3);
        Desks.receive(desk, 1, 0);
        Desks.steps(desk, 1, 3);
        Desks.send(desk, 2, 0, 20);
        desk.step(2);
        desk.offer(3);
        desk.cancel(3);
        check.steps(desk, 1, 1, 1, 1);
        check.process(desk, 1, Desks.OPEN, 1, Desks.NONE, Desks.ASLEEP);
        check.process(desk, 2, Desks.OPEN, 1, Desks.NONE, Desks.LOOKING);
        check.list(desk, 0, new int[] {1, 1, 0}, new int[] {2, 1, 0});
        check.steps(desk, 2, 0, 0, 0);
        check.process(desk, 1, Desks.HELD, 1, 2, Desks.ASLEEP);
        check.steps(desk, 1, 1);
    }
}

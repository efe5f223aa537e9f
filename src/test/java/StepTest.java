/** Promise 6: whole ways of two or three processes, step by step. */
public final class StepTest {
    public static void main(String[] args) {
        Check check = new Check();
        lowerClaimsItselfFirst(check);
        higherClaimsTheOtherFirst(check);
        ownVersionIsItsOwn(check);
        pairedWhileAsleep(check);
        threeForOne(check);
        twoThatLookAtEachOther(check);
        check.exitIfWrong();
    }

    private static void lowerClaimsItselfFirst(Check check) {
        RendezvousDesk desk = Desks.tellerAt(Desks.FIRST);
        check.steps(desk, 1, 0);
        check.process(desk, 1, Desks.HELD, 1, 1, Desks.SECOND, Desks.NONE, Desks.NONE, 0);
        check.process(desk, 2, Desks.OPEN, 1, Desks.NONE, Desks.LOOKING);
        check.steps(desk, 1, 0);
        check.process(desk, 1, Desks.HELD, 1, 1, Desks.TELLING);
        check.process(desk, 2, Desks.HELD, 1, 1, Desks.LOOKING, Desks.NONE, Desks.NONE, 0);
        check.steps(desk, 1, 0);
        check.process(desk, 1, Desks.HELD, 1, 1, Desks.CLOSING, Desks.NONE, Desks.NONE, 0);
        check.process(desk, 2, Desks.PAIRED, 1, Desks.NONE, Desks.LOOKING, 1, 0, 0);
        check.steps(desk, 1, 2, 2);
        check.process(desk, 1, Desks.PAIRED, 1, Desks.NONE, Desks.END, 2, 0, 10);
        check.steps(desk, 2, 2, 2);
        check.place(desk, 2, Desks.END);
    }

    private static void higherClaimsTheOtherFirst(Check check) {
        RendezvousDesk desk = Desks.higherAtSecond(0);
        check.process(desk, 2, Desks.HELD, 1, 5, Desks.LOOKING);
        check.process(desk, 5, Desks.OPEN, 1, Desks.NONE, Desks.SECOND);
        check.steps(desk, 5, 0);
        check.process(desk, 5, Desks.HELD, 1, 5, Desks.TELLING);
        // 2 finds 5 as well, but is held itself: it looks on and does not sleep.
        check.steps(desk, 2, 0, 0, 0, 0);
        check.place(desk, 2, Desks.LOOKING);
        check.steps(desk, 5, 0, 2);
        check.process(desk, 5, Desks.PAIRED, 1, Desks.NONE, Desks.END, 2, 0, 20);
        check.process(desk, 2, Desks.PAIRED, 1, Desks.NONE, Desks.LOOKING, 5, 0, 0);
        check.steps(desk, 2, 2);
        check.place(desk, 2, Desks.END);
    }

    /** "(of itself: its own)": each claims with its own version, which is not the other's. */
    private static void ownVersionIsItsOwn(Check check) {
        int[] tellers = {1, 2};
        for (int teller : tellers) {
            RendezvousDesk desk = Desks.live(1, 2);
            desk.offer(1);
            desk.cancel(1);
            Desks.receive(desk, 3 - teller, 0);
            desk.step(3 - teller);
            Desks.send(desk, teller, 0, -8);
            check.steps(desk, teller, 0, 0, 0, 0, 0, 2);
            check.process(desk, teller, Desks.PAIRED, teller == 1 ? 2 : 1, Desks.NONE, Desks.END,
                    3 - teller, 0, 0);
            check.process(desk, 3 - teller, Desks.PAIRED, teller == 1 ? 1 : 2, Desks.NONE, Desks.LOOKING,
                    teller, 0, -8);
        }
    }

    private static void pairedWhileAsleep(Check check) {
        RendezvousDesk desk = Desks.live(2, 5);
        Desks.send(desk, 2, 3, 20);
        check.steps(desk, 2, 0, 0, 1);
        Desks.receive(desk, 5, 3);
        Desks.steps(desk, 5, 4);
        check.process(desk, 2, Desks.HELD, 1, 5, Desks.ASLEEP);
        check.steps(desk, 2, 1);
        check.steps(desk, 5, 0);
        check.process(desk, 2, Desks.PAIRED, 1, Desks.NONE, Desks.ASLEEP, 5, 0, 0);
        check.steps(desk, 2, 2);
        check.place(desk, 2, Desks.END);
    }

    /** 7 finds 2 held by 5, looks again until 2 is paired, and sleeps at the end of that round. */
    private static void threeForOne(Check check) {
        RendezvousDesk desk = Desks.higherAtSecond(0);
        Desks.receive(desk, 7, 3);
        check.steps(desk, 7, 0, 0);
        check.place(desk, 7, Desks.FIRST);
        check.steps(desk, 7, 0);
        check.place(desk, 7, Desks.LOOKING);
        check.steps(desk, 7, 0, 0, 0);
        check.place(desk, 7, Desks.LOOKING);
        check.steps(desk, 7, 0);
        check.place(desk, 7, Desks.FIRST);
        Desks.steps(desk, 5, 3);
        check.steps(desk, 7, 0, 0, 0, 1);
        check.place(desk, 7, Desks.ASLEEP);
    }

    /** Both are at FIRST with each other: the lower is claimed once, and one of them goes on. */
    private static void twoThatLookAtEachOther(Check check) {
        int[][] orders = {{1, 2}, {2, 1}};
        for (int[] order : orders) {
            RendezvousDesk desk = Desks.live(1, 2);
            Desks.send(desk, 1, 0, 10);
            Desks.receive(desk, 2, 0);
            desk.step(1);
            desk.step(2);
            Desks.stepTo(desk, 1, Desks.FIRST);
            Desks.stepTo(desk, 2, Desks.FIRST);
            check.steps(desk, order[0], 0);
            check.place(desk, order[0], Desks.SECOND);
            check.steps(desk, order[1], 0);
            check.place(desk, order[1], Desks.LOOKING);
            check.process(desk, 1, Desks.HELD, 1, order[0]);
            check.process(desk, 2, Desks.OPEN, 1, Desks.NONE);
            check.steps(desk, order[0], 0, 0, 2);
            check.steps(desk, order[1], 2);
            check.due("who told", order[0], desk.pair(0, 0));
            check.due("pairs", 1, desk.count(2));
        }
    }
}

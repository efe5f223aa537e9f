/** Promise 6: where a process comes to its end, and what a step answers. */
public final class EndTest {
    private static final int[] ENDS_THERE = {Desks.PUBLISHING, Desks.LOOKING, Desks.FIRST, Desks.ASLEEP};
    private static final int[] GOES_ON_THERE = {Desks.SECOND, Desks.BACK};

    public static void main(String[] args) {
        Check check = new Check();
        pairedWhereItIs(check);
        closedWhereItIs(check);
        pairedButNotAtTheEnd(check);
        closedButNotAtTheEnd(check);
        tellerGoesOnToItsEnd(check);
        answers(check);
        check.exitIfWrong();
    }

    /** "and is PAIRED ... does nothing any more: it is at 8 THE END" */
    private static void pairedWhereItIs(Check check) {
        for (int place : ENDS_THERE) {
            RendezvousDesk desk = Desks.twoPairedAt(place);
            int entries = desk.count(3);
            check.process(desk, 2, Desks.PAIRED, 1, Desks.NONE, place, 5, 0, 0);
            check.steps(desk, 2, 2, 2, 2);
            check.process(desk, 2, Desks.PAIRED, 1, Desks.NONE, Desks.END, 5, 0, 0);
            check.process(desk, 5, Desks.HELD, 1, 5, Desks.CLOSING);
            check.due("entries", entries, desk.count(3));
            check.due("offers", 2, desk.count(1));
        }
    }

    /** "or CLOSED by its time, does nothing any more" */
    private static void closedWhereItIs(Check check) {
        for (int place : ENDS_THERE) {
            RendezvousDesk desk = Desks.fiveClosedAt(place);
            int entries = desk.count(3);
            check.process(desk, 5, Desks.CLOSED, 1, Desks.NONE, place);
            check.steps(desk, 5, 3, 3, 3);
            check.process(desk, 5, Desks.CLOSED, 1, Desks.NONE, Desks.END, Desks.NONE, Desks.NONE, 0);
            check.due("entries", entries, desk.count(3));
            check.due("the other is not held", Desks.NONE, desk.process(2, 2));
        }
    }

    /** At SECOND and BACK it gives back first; each such step answers 0. */
    private static void pairedButNotAtTheEnd(Check check) {
        for (int place : GOES_ON_THERE) {
            RendezvousDesk desk = Desks.fivePairedAt(place);
            for (int at = place; at <= Desks.BACK; at++) {
                check.place(desk, 5, at);
                check.due("2 is held", 5, desk.process(2, 2));
                check.steps(desk, 5, 0);
            }
            check.due("2 is given back", Desks.OPEN, desk.process(2, 0));
            check.place(desk, 5, Desks.LOOKING);
            check.steps(desk, 5, 2);
            check.place(desk, 5, Desks.END);
        }
    }

    private static void closedButNotAtTheEnd(Check check) {
        for (int place : GOES_ON_THERE) {
            RendezvousDesk desk = Desks.fiveClosedAt(Desks.SECOND);
            Desks.stepTo(desk, 5, place);
            for (int at = place; at <= Desks.BACK; at++) {
                check.place(desk, 5, at);
                check.steps(desk, 5, 0);
            }
            check.due("2 is given back", Desks.OPEN, desk.process(2, 0));
            check.place(desk, 5, Desks.LOOKING);
            check.steps(desk, 5, 3);
            check.place(desk, 5, Desks.END);
        }
    }

    /** "TELLING: the other process is PAIRED", "CLOSING: the process's own state is PAIRED" */
    private static void tellerGoesOnToItsEnd(Check check) {
        RendezvousDesk desk = Desks.tellerAt(Desks.TELLING);
        check.due("pairs", 0, desk.count(2));
        check.steps(desk, 1, 0);
        check.process(desk, 1, Desks.HELD, 1, 1, Desks.CLOSING, Desks.NONE, Desks.NONE, 0);
        check.process(desk, 2, Desks.PAIRED, 1, Desks.NONE, Desks.LOOKING, 1, 0, 0);
        check.due("pairs", 1, desk.count(2));
        check.steps(desk, 1, 2);
        check.process(desk, 1, Desks.PAIRED, 1, Desks.NONE, Desks.END, 2, 0, 10);
        check.due("pairs", 1, desk.count(2));
        check.steps(desk, 1, 2);
        check.due("entries stay until the finish", 2, desk.count(3));
    }

    /** "2 ...; 3 ...; 1 ASLEEP; else 0. (4 when it is idle.)": of the step from each place. */
    private static void answers(Check check) {
        int[] want = {0, 0, 0, 0, 0, 0, 2, 1, 2, 4};
        int[] then = {Desks.PUBLISHING, Desks.FIRST, Desks.SECOND, Desks.TELLING, Desks.LOOKING,
            Desks.CLOSING, Desks.END, Desks.ASLEEP, Desks.END, Desks.IDLE};
        for (int place = Desks.PUBLISHING; place <= Desks.IDLE; place++) {
            RendezvousDesk desk = Desks.fiveAt(place);
            check.due("step(5) at place " + place, want[place], desk.step(5));
            check.place(desk, 5, then[place]);
        }
        RendezvousDesk closed = Desks.fiveClosedAt(Desks.ASLEEP);
        check.steps(closed, 5, 3, 3);
        closed.finish(5);
        check.steps(closed, 5, 4);
    }
}

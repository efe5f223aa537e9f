/** Promise 11: the entries of a channel's list. */
public final class WaitingTest {
    public static void main(String[] args) {
        Check check = new Check();
        inTheOrderTheyCame(check);
        aFullList(check);
        anEmptyList(check);
        noSuchEntry(check);
        anotherWhat(check);
        check.exitIfWrong();
    }

    /** "in the order in which they came"; "An ENTRY tells a process, its version, and one of its guards" */
    private static void inTheOrderTheyCame(Check check) {
        RendezvousDesk desk = Desks.live(4, 11);
        Desks.receive(desk, 11, 7);
        desk.cancel(11);
        desk.guard(11, 1, 0, 0, false);
        desk.guard(11, 1, 7, 0, true);
        desk.offer(11);
        desk.step(11);
        Desks.receive(desk, 4, 7);
        desk.step(4);
        check.list(desk, 7, new int[] {11, 2, 1}, new int[] {4, 1, 0});
    }

    private static void aFullList(Check check) {
        RendezvousDesk desk = Desks.fullList(3, 0);
        check.due("count(3)", 64, desk.count(3));
        check.due("waiting(3, 0, 0)", 0, desk.waiting(3, 0, 0));
        check.due("waiting(3, 63, 0)", 15, desk.waiting(3, 63, 0));
        check.due("waiting(3, 63, 1)", 1, desk.waiting(3, 63, 1));
        check.due("waiting(3, 63, 2)", 3, desk.waiting(3, 63, 2));
        check.throwing("waiting(3, 64, 0)", Check.OUT_OF_BOUNDS, () -> desk.waiting(3, 64, 0));
        desk.run(1, 5000);
        check.due("all are asleep", Desks.ASLEEP, desk.process(9, 3));
    }

    private static void anEmptyList(Check check) {
        for (int c = 0; c <= 7; c++) {
            int channel = c;
            check.refused("waiting(" + c + ", 0, 0)", Check.OUT_OF_BOUNDS, RendezvousDesk::new,
                    desk -> desk.waiting(channel, 0, 0));
        }
    }

    /** Two entries on channel 3, one on channel 4. */
    private static RendezvousDesk three() {
        return Desks.fiveAt(Desks.LOOKING);
    }

    /** "IndexOutOfBoundsException, when there is no such channel, entry ..." */
    private static void noSuchEntry(Check check) {
        check.list(three(), 3, new int[] {2, 1, 0}, new int[] {5, 1, 0});
        check.list(three(), 4, new int[] {5, 1, 1});
        int[][] none = {{3, -1}, {3, 2}, {4, 1}, {2, 0}, {3, 64}, {3, Integer.MAX_VALUE},
            {3, Integer.MIN_VALUE}, {-1, 0}, {8, 0}, {-1, -1}, {8, 64}, {Integer.MAX_VALUE, 0},
            {Integer.MIN_VALUE, 0}};
        for (int[] of : none) {
            for (int what = 0; what <= 2; what++) {
                int each = what;
                check.refused("waiting(" + of[0] + ", " + of[1] + ", " + what + ")", Check.OUT_OF_BOUNDS,
                        WaitingTest::three, desk -> desk.waiting(of[0], of[1], each));
            }
        }
    }

    /** "... or what": 0 to 2 are there, -1 and 3 are not. */
    private static void anotherWhat(Check check) {
        int[] none = {-1, 3, Integer.MIN_VALUE, Integer.MAX_VALUE};
        for (int what : none) {
            check.refused("waiting(3, 0, " + what + ")", Check.OUT_OF_BOUNDS, WaitingTest::three,
                    desk -> desk.waiting(3, 0, what));
            check.refused("waiting(3, 1, " + what + ")", Check.OUT_OF_BOUNDS, WaitingTest::three,
                    desk -> desk.waiting(3, 1, what));
        }
    }
}

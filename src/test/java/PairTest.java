/** Promise 12: the pairs, from 0. */
public final class PairTest {
    public static void main(String[] args) {
        Check check = new Check();
        writtenDownWhenTold(check);
        pairsStay(check);
        noPairYet(check);
        noSuchPair(check);
        anotherWhat(check);
        theTellerSendsOrReceives(check);
        check.exitIfWrong();
    }

    private static void ofPair(Check check, RendezvousDesk desk, int k, int... want) {
        for (int what = 0; what < want.length; what++) {
            check.due("pair(" + k + ", " + what + ")", want[what], desk.pair(k, what));
        }
    }

    /** "TELLING: ... a PAIR is written down" */
    private static void writtenDownWhenTold(Check check) {
        RendezvousDesk desk = Desks.tellerAt(Desks.TELLING);
        check.throwing("pair(0, 0) before it is told", Check.OUT_OF_BOUNDS, () -> desk.pair(0, 0));
        desk.step(1);
        ofPair(check, desk, 0, 1, 2, 0, 2, 10);
        desk.step(1);
        check.throwing("pair(1, 0)", Check.OUT_OF_BOUNDS, () -> desk.pair(1, 0));
    }

    /** Two pairs: the first one told is number 0, and stays behind the finishes. */
    private static RendezvousDesk two() {
        RendezvousDesk desk = Desks.tellerAt(Desks.END);
        desk.finish(1);
        desk.finish(2);
        Desks.receive(desk, 2, 7);
        desk.step(2);
        Desks.send(desk, 1, 7, Integer.MIN_VALUE);
        Desks.steps(desk, 1, 6);
        return desk;
    }

    private static void pairsStay(Check check) {
        RendezvousDesk desk = two();
        ofPair(check, desk, 0, 1, 2, 0, 2, 10);
        ofPair(check, desk, 1, 1, 2, 7, 1, Integer.MIN_VALUE);
        desk.finish(1);
        desk.finish(2);
        ofPair(check, desk, 1, 1, 2, 7, 1, Integer.MIN_VALUE);
        check.due("count(2)", 2, desk.count(2));
    }

    private static void noPairYet(Check check) {
        for (int what = 0; what <= 4; what++) {
            int each = what;
            check.refused("pair(0, " + what + ")", Check.OUT_OF_BOUNDS, RendezvousDesk::new,
                    desk -> desk.pair(0, each));
        }
    }

    /** "IndexOutOfBoundsException, when there is no such pair": 0 and 1 are there, -1 and 2 are not. */
    private static void noSuchPair(Check check) {
        int[] none = {-1, 2, 3, 128, Integer.MIN_VALUE, Integer.MAX_VALUE};
        for (int k : none) {
            for (int what = 0; what <= 4; what++) {
                int each = what;
                check.refused("pair(" + k + ", " + what + ")", Check.OUT_OF_BOUNDS, PairTest::two,
                        desk -> desk.pair(k, each));
            }
        }
    }

    /** "or what": 0 to 4 are there, -1 and 5 are not. */
    private static void anotherWhat(Check check) {
        int[] none = {-1, 5, Integer.MIN_VALUE, Integer.MAX_VALUE};
        for (int what : none) {
            check.refused("pair(0, " + what + ")", Check.OUT_OF_BOUNDS, PairTest::two,
                    desk -> desk.pair(0, what));
            check.refused("pair(1, " + what + ")", Check.OUT_OF_BOUNDS, PairTest::two,
                    desk -> desk.pair(1, what));
            check.refused("pair(2, " + what + ")", Check.OUT_OF_BOUNDS, PairTest::two,
                    desk -> desk.pair(2, what));
        }
    }

    /** "who told (what 0), the other (1), the channel (2), who sent (3), the value (4)" */
    private static void theTellerSendsOrReceives(Check check) {
        int[][] both = {{0, 15}, {15, 0}};
        for (int[] of : both) {
            RendezvousDesk sends = Desks.live(0, 15);
            Desks.receive(sends, of[1], 4);
            sends.step(of[1]);
            Desks.send(sends, of[0], 4, -1);
            Desks.steps(sends, of[0], 6);
            ofPair(check, sends, 0, of[0], of[1], 4, of[0], -1);
            RendezvousDesk receives = Desks.live(0, 15);
            Desks.send(receives, of[1], 4, 0);
            receives.step(of[1]);
            Desks.receive(receives, of[0], 4);
            Desks.steps(receives, of[0], 6);
            ofPair(check, receives, 0, of[0], of[1], 4, of[1], 0);
        }
    }
}

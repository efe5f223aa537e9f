/** Promise 12: the pairs, from 0. */
public final class PairTest {
    public static void main(String[] args) {
        Check check = new Check();
        RendezvousDesk desk = Desks.tellerAt(Desks.TELLING);
        check.throwing("pair(0, 0) before it is told", Check.OUT_OF_BOUNDS, () -> desk.pair(0, 0));
        desk.step(1);
        ofPair(check, desk, 0, 1, 2, 0, 2, 10);
        desk.step(1);
        desk.finish(1);
        desk.finish(2);
        Desks.receive(desk, 2, 6);
        desk.step(2);
        Desks.send(desk, 1, 6, Integer.MIN_VALUE);
        Desks.steps(desk, 1, 6);
        ofPair(check, desk, 0, 1, 2, 0, 2, 10);
        ofPair(check, desk, 1, 1, 2, 6, 1, Integer.MIN_VALUE);
        int[][] none = {{-1, 0}, {2, 0}, {0, -1}, {0, 5}, {Integer.MAX_VALUE, 0}, {0, Integer.MIN_VALUE}};
        for (int[] of : none) {
            check.throwing("pair(" + of[0] + ", " + of[1] + ")", Check.OUT_OF_BOUNDS,
                    () -> desk.pair(of[0], of[1]));
        }
        asManyAsCallsAllow(check);
        check.exitIfWrong();
    }

    private static void ofPair(Check check, RendezvousDesk desk, int k, int... want) {
        for (int what = 0; what < want.length; what++) {
            check.due("pair(" + k + ", " + what + ")", want[what], desk.pair(k, what));
        }
    }

    /** Two guards, two offers, one run and two finishes a pair, within 512 calls. */
    private static void asManyAsCallsAllow(Check check) {
        RendezvousDesk desk = Desks.live(0, 1);
        for (int k = 0; k < 70; k++) {
            Desks.send(desk, 0, k % 8, k);
            Desks.receive(desk, 1, k % 8);
            desk.run(k, 100);
            desk.finish(0);
            desk.finish(1);
        }
        check.due("count(2)", 70, desk.count(2));
        check.due("pair(69, 4)", 69, desk.pair(69, 4));
    }
}

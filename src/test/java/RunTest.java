/** Promise 13: many steps, the process of each told by the seed. */
public final class RunTest {
    public static void main(String[] args) {
        Check check = new Check();
        wrongInputs(check);
        sameAsTheStepsOneByOne(check);
        check.exitIfWrong();
    }

    private static void wrongInputs(Check check) {
        RendezvousDesk empty = new RendezvousDesk();
        RendezvousDesk desk = Desks.live(3);
        int[] none = {0, -1, 5001, Integer.MIN_VALUE, Integer.MAX_VALUE};
        for (int steps : none) {
            check.throwing("run(1, " + steps + ")", Check.ILLEGAL_ARGUMENT, () -> desk.run(1, steps));
            check.throwing("run(1, " + steps + "), none live", Check.ILLEGAL_ARGUMENT,
                    () -> empty.run(1, steps));
        }
        check.throwing("run(1, 1), none live", Check.ILLEGAL_STATE, () -> empty.run(1, 1));
        check.throwing("run(1, 5000), none live", Check.ILLEGAL_STATE, () -> empty.run(1, 5000));
        check.due("run(1, 1), idle", 0, desk.run(1, 1));
        desk.timeout(3, 1);
        desk.offer(3);
        desk.tick();
        check.due("run(1, 5000), closed", 5000, desk.run(1, 5000));
    }

    private static void sameAsTheStepsOneByOne(Check check) {
        int[] seeds = {0, 1, -1, 12345, Integer.MIN_VALUE, Integer.MAX_VALUE, -987654321};
        for (int seed : seeds) {
            RendezvousDesk ran = crowd();
            RendezvousDesk stepped = crowd();
            for (int part = 0; part < 20; part++) {
                check.due("run(" + seed + ", 17)", stepByStep(stepped, seed + part, 17),
                        ran.run(seed + part, 17));
                for (int p = 1; p < 16; p += 2) {
                    for (int what = 0; what <= 6; what++) {
                        check.due("process(" + p + ", " + what + ")", stepped.process(p, what),
                                ran.process(p, what));
                    }
                }
            }
        }
    }

    private static RendezvousDesk crowd() {
        RendezvousDesk desk = Desks.live(15, 13, 11, 9, 7, 5, 3, 1);
        for (int p = 1; p < 16; p += 2) {
            desk.guard(p, p / 2 % 2, p % 3, p, true);
            desk.guard(p, p / 4 % 2, 4, p, true);
            desk.offer(p);
        }
        return desk;
    }

    private static long stepByStep(RendezvousDesk desk, int seed, int steps) {
        long x = seed & 0x7fffffffL;
        int ended = 0;
        for (int i = 0; i < steps; i++) {
            x = (1103515245L * x + 12345L) % 2147483648L;
            int answer = desk.step((int) (x / 65536 % 8) * 2 + 1);
            ended += answer == 2 || answer == 3 ? 1 : 0;
        }
        return ended;
    }
}

import java.util.Random;

/** "An object is used for at most 512 calls after it has been made": the last of them hold as well. */
public final class CallsTest {
    private RendezvousDesk desk = new RendezvousDesk();
    private int calls = 0;

    public static void main(String[] args) {
        Check check = new Check();
        new CallsTest().asManyPairs(check);
        new CallsTest().asManyOffers(check);
        new CallsTest().asManyEntriesInTheLastCall(check);
        new CallsTest().callsBehindTheLast(check);
        check.exitIfWrong();
    }

    private void spawn(int many) {
        for (int p = 0; p < many; p++) {
            desk.spawn(p);
            calls++;
        }
    }

    /** Processes 2i and 2i + 1 are paired on channel i, for all i below that many. */
    private void pairs(int many, int value) {
        for (int p = 0; p < 2 * many; p++) {
            desk.guard(p, p % 2, p / 2, value + p / 2, true);
            desk.offer(p);
            calls += 2;
        }
        desk.run(value, 5000);
        calls++;
    }

    private void finish(Check check, int many) {
        for (int p = 0; p < 2 * many; p++) {
            check.due("finish(" + p + ")", p % 2 == 0 ? p + 1 : p - 1, desk.finish(p));
            calls++;
        }
    }

    /** No run of 512 calls makes many more: 83 pairs, and the 512th call tells of the last. */
    private void asManyPairs(Check check) {
        spawn(16);
        for (int round = 0; round < 10; round++) {
            pairs(8, 8 * round);
            finish(check, round < 9 ? 8 : 3);
        }
        pairs(3, 80);
        check.due("calls before the last two", 509, calls);
        check.due("count(2)", 83, desk.count(2));
        check.throwing("pair(83, 0)", Check.OUT_OF_BOUNDS, () -> desk.pair(83, 0));
        boolean found = false;
        int value = desk.pair(82, 4);
        for (int i = 0; i < 3; i++) {
            found = found || value == 80 + i;
        }
        check.due("the 512th call, pair(82, 4)", true, found);
    }

    /** Offers without guards that are cancelled: a version for every second call. */
    private void asManyOffers(Check check) {
        desk.spawn(9);
        for (int version = 1; version <= 255; version++) {
            check.due("offer(9)", version, desk.offer(9));
            check.due("cancel(9)", true, desk.cancel(9));
        }
        check.due("the 512th call, process(9, 1)", 255, desk.process(9, 1));
    }

    /** A full list, then steps up to the 512th call, which finds the last entry of the last guard. */
    private void asManyEntriesInTheLastCall(Check check) {
        spawn(16);
        for (int p = 0; p < 16; p++) {
            for (int g = 0; g < 4; g++) {
                desk.guard(p, 0, 7, g, true);
            }
            desk.offer(p);
            Desks.steps(desk, p, 4);
            calls += 9;
        }
        // Four guards, each with 64 entries and none behind them.
        for (int i = 1; i < 4 * 65; i++) {
            check.steps(desk, 0, 0);
            calls++;
        }
        check.steps(desk, 0, 1);
        calls++;
        while (calls < 511) {
            check.steps(desk, 0, 1);
            calls++;
        }
        check.due("the 512th call, waiting(7, 63, 2)", 3, desk.waiting(7, 63, 2));
    }

    /** "what later calls answer is free", but nothing else than the told exceptions comes out. */
    private void callsBehindTheLast(Check check) {
        spawn(16);
        Random random = new Random(5);
        for (int i = 0; i < 20000; i++) {
            int p = random.nextInt(18) - 1;
            switch (random.nextInt(9)) {
                case 0 -> told(check, () -> desk.guard(p, random.nextInt(2), random.nextInt(2), p, true));
                case 1 -> told(check, () -> desk.timeout(p, random.nextInt(1002)));
                case 2 -> told(check, () -> desk.offer(p));
                case 3 -> told(check, () -> desk.cancel(p) ? 1 : 0);
                case 4, 5 -> told(check, () -> desk.finish(p));
                case 6 -> told(check, () -> desk.tick() + desk.count(p));
                case 7 -> told(check, () -> desk.pair(i(random), p) + desk.waiting(p, i(random), p));
                default -> told(check, () -> desk.run(random.nextInt(), 40));
            }
        }
        check.due("still all live", 16, desk.count(0));
    }

    private static int i(Random random) {
        return random.nextInt(300);
    }

    private static void told(Check check, Check.Call call) {
        try {
            call.answer();
        } catch (RuntimeException e) {
            boolean known = e.getClass() == Check.OUT_OF_BOUNDS || e.getClass() == Check.ILLEGAL_STATE
                    || e.getClass() == Check.ILLEGAL_ARGUMENT || e.getClass() == Check.UNSUPPORTED;
            check.due("a told exception, not " + e, true, known);
        }
    }
}

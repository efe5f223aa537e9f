import java.util.Arrays;
import java.util.Random;

/**
 * Random runs of 512 calls: the program answers as the plain second writing of the document does. A look
 * at the state is a call too, so a run looks now and then, and at all that it can at its end.
 */
public final class AgainstPlainDeskTest {
    private static final int RUNS = 4000;
    private static final int CALLS = 512;
    private static final int LOOKS_AT_LISTS = 40;
    private static final int PAIRS_A_RUN = 2;

    private final Random random;
    private final RendezvousDesk desk = new RendezvousDesk();
    private final PlainDesk plain = new PlainDesk();
    private final int processes;
    private final int channels;
    private final boolean wild;
    private final int callsALook;
    private final boolean[] spawned = new boolean[16];
    private final StringBuilder story = new StringBuilder();
    private int made = 0;

    private AgainstPlainDeskTest(int seed) {
        random = new Random(seed);
        processes = 2 + random.nextInt(15);
        channels = 1 + random.nextInt(random.nextBoolean() ? 2 : 8);
        wild = random.nextInt(4) == 0;
        callsALook = 1 + random.nextInt(10);
    }

    public static void main(String[] args) {
        int pairs = 0;
        int differing = 0;
        for (int seed = 0; seed < RUNS && differing < 3; seed++) {
            AgainstPlainDeskTest run = new AgainstPlainDeskTest(seed);
            if (!run.agrees()) {
                differing++;
                System.out.println("run " + seed + ":" + run.story);
            }
            pairs += run.plain.count(2);
        }
        Check check = new Check();
        check.due("runs that differ", 0, differing);
        if (differing == 0) {
            check.due("enough pairs were made, of " + pairs, true, pairs > PAIRS_A_RUN * RUNS);
        }
        check.exitIfWrong();
    }

    private boolean agrees() {
        int atOnce = wild ? 0 : processes;
        for (int p = 0; p < atOnce; p++) {
            sameSpawn(p);
        }
        int lastLooks = 7 + 7 * processes + LOOKS_AT_LISTS;
        while (made + 2 + lastLooks <= CALLS) {
            int p = among(processes, 16);
            boolean same = random.nextInt(3) == 0 ? anyCall(p) : callThatFits(p);
            if (!same || random.nextInt(callsALook) == 0 && !sameLook()) {
                return false;
            }
        }
        return sameState();
    }

    private boolean callThatFits(int p) {
        if (p < 0 || p > 15 || !spawned[p]) {
            return sameSpawn(p);
        }
        int place = plain.process(p, 3);
        if (place == Desks.IDLE) {
            return random.nextInt(5) < 3 ? sameGuard(p) : sameOffer(p);
        }
        return place == Desks.END ? sameFinish(p) : sameStep(p);
    }

    private boolean anyCall(int p) {
        switch (random.nextInt(20)) {
            case 0:
                return sameSpawn(p);
            case 1:
            case 2:
                return sameGuard(p);
            case 3:
            case 4:
                return sameTimeout(p);
            case 5:
                return sameOffer(p);
            case 6:
            case 7:
                return same(desk::tick, plain::tick, "tick");
            case 8:
            case 9:
                return same(() -> desk.cancel(p) ? 1 : 0, () -> plain.cancel(p) ? 1 : 0, "cancel", p);
            case 10:
            case 11:
            case 12:
                return sameFinish(p);
            case 13:
            case 14:
            case 15:
            case 16:
                return sameRun();
            default:
                return sameStep(p);
        }
    }

    private boolean sameSpawn(int p) {
        if (p >= 0 && p < spawned.length) {
            spawned[p] = true;
        }
        return same(() -> {
            desk.spawn(p);
            return 0;
        }, () -> {
            plain.spawn(p);
            return 0;
        }, "spawn", p);
    }

    private boolean sameGuard(int p) {
        int kind = among(2, 2);
        int channel = among(channels, 8);
        int value = random.nextInt();
        boolean on = random.nextInt(6) != 0;
        return same(() -> desk.guard(p, kind, channel, value, on),
                () -> plain.guard(p, kind, channel, value, on), "guard", p, kind, channel, value, on ? 1 : 0);
    }

    private boolean sameTimeout(int p) {
        int ticks = random.nextInt(8) == 0 ? random.nextInt(1400) - 200 : random.nextInt(6);
        return same(() -> desk.timeout(p, ticks), () -> plain.timeout(p, ticks), "timeout", p, ticks);
    }

    private boolean sameOffer(int p) {
        return same(() -> desk.offer(p), () -> plain.offer(p), "offer", p);
    }

    private boolean sameStep(int p) {
        return same(() -> desk.step(p), () -> plain.step(p), "step", p);
    }

    private boolean sameFinish(int p) {
        return same(() -> desk.finish(p), () -> plain.finish(p), "finish", p);
    }

    private boolean sameRun() {
        int seed = random.nextInt();
        int steps = random.nextInt(32) == 0 ? random.nextInt(5400) - 200 : 1 + random.nextInt(60);
        return same(() -> desk.run(seed, steps), () -> plain.run(seed, steps), "run", seed, steps);
    }

    /** Mostly one of the first numbers; in a wild run now and then one beside all that there are. */
    private int among(int usual, int all) {
        if (!wild || random.nextInt(6) != 0) {
            return random.nextInt(usual);
        }
        return random.nextBoolean() ? random.nextInt(all + 4) - 2 : random.nextInt();
    }

    private boolean sameLook() {
        int p = random.nextInt(processes);
        switch (random.nextInt(4)) {
            case 0:
                return sameCount(random.nextInt(7) - 1);
            case 1:
                return sameEntry();
            case 2:
                return samePair();
            default:
                return sameProcess(p, random.nextInt(9) - 1);
        }
    }

    private boolean sameState() {
        boolean same = true;
        for (int what = -1; what <= 5; what++) {
            same = same && sameCount(what);
        }
        for (int p = 0; p < processes; p++) {
            for (int what = 0; what <= 6; what++) {
                same = same && sameProcess(p, what);
            }
        }
        for (int i = 0; i < LOOKS_AT_LISTS; i++) {
            same = same && (i % 4 == 0 ? samePair() : sameEntry());
        }
        return same;
    }

    private boolean sameCount(int what) {
        return quietlySame(() -> desk.count(what), () -> plain.count(what), "count", what);
    }

    private boolean sameProcess(int p, int what) {
        return quietlySame(() -> desk.process(p, what), () -> plain.process(p, what), "process", p, what);
    }

    private boolean sameEntry() {
        int channel = among(channels, 8);
        int i = random.nextInt(Math.min(plain.count(3), 12) + 2) - 1;
        int what = random.nextInt(8) == 0 ? random.nextInt(5) - 1 : random.nextInt(3);
        return quietlySame(() -> desk.waiting(channel, i, what), () -> plain.waiting(channel, i, what),
                "waiting", channel, i, what);
    }

    private boolean samePair() {
        int k = random.nextInt(plain.count(2) + 2) - 1;
        int what = random.nextInt(7) - 1;
        return quietlySame(() -> desk.pair(k, what), () -> plain.pair(k, what), "pair", k, what);
    }

    private boolean same(Check.Call ours, Check.Call due, String name, int... arguments) {
        long want = answer(due);
        story.append("\n  ").append(name).append(Arrays.toString(arguments)).append(" -> ").append(want);
        return isDue(answer(ours), want, name, arguments);
    }

    private boolean quietlySame(Check.Call ours, Check.Call due, String name, int... arguments) {
        return isDue(answer(ours), answer(due), name, arguments);
    }

    private boolean isDue(long got, long want, String name, int... arguments) {
        made++;
        if (got != want) {
            story.append("\n  ").append(name).append(Arrays.toString(arguments));
            story.append(" answered ").append(got).append(", due is ").append(want);
        }
        return got == want;
    }

    /** An exception counts as an answer below every int, one for each class. */
    private static long answer(Check.Call call) {
        try {
            return call.answer();
        } catch (RuntimeException e) {
            Class<?>[] told = {Check.OUT_OF_BOUNDS, Check.ILLEGAL_STATE, Check.ILLEGAL_ARGUMENT,
                Check.UNSUPPORTED};
            return Long.MIN_VALUE + Arrays.asList(told).indexOf(e.getClass());
        }
    }
}

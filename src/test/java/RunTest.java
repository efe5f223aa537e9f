import java.math.BigInteger;
import java.util.ArrayList;
import java.util.List;

/** Promise 13: many steps, the process of each told by the seed. */
public final class RunTest {
    private static final int[] SEEDS = {0, 1, -1, 2, 12345, 65535, 65536, 0x40000000, Integer.MIN_VALUE,
        Integer.MIN_VALUE + 1, Integer.MAX_VALUE, Integer.MAX_VALUE - 1, -987654321};

    public static void main(String[] args) {
        Check check = new Check();
        tooFewAndTooMany(check);
        noneLive(check);
        oneLive(check);
        fewestAndMostSteps(check);
        whoSteps(check);
        lowestBitsOfTheSeed(check);
        theSeedBeginsAnew(check);
        sameAsTheStepsOneByOne(check);
        countsTwosAndThreesAlone(check);
        check.exitIfWrong();
    }

    /** "IllegalArgumentException, when steps are none of these" (1 .. 5000) */
    private static void tooFewAndTooMany(Check check) {
        int[] none = {0, -1, 5001, Integer.MIN_VALUE, Integer.MAX_VALUE};
        for (int steps : none) {
            check.refused("run(1, " + steps + ")", Check.ILLEGAL_ARGUMENT,
                    () -> Desks.fiveAt(Desks.LOOKING), desk -> desk.run(1, steps));
            check.refused("run(1, " + steps + "), none live", Check.ILLEGAL_ARGUMENT,
                    RendezvousDesk::new, desk -> desk.run(1, steps));
        }
    }

    /** "IllegalStateException, when none is live": with steps that are good. */
    private static void noneLive(Check check) {
        int[] good = {1, 2, 4999, 5000};
        for (int steps : good) {
            check.refused("run(1, " + steps + "), none live", Check.ILLEGAL_STATE, RendezvousDesk::new,
                    desk -> desk.run(1, steps));
        }
    }

    private static void oneLive(Check check) {
        int[] ends = {0, 15};
        for (int p : ends) {
            for (int seed : SEEDS) {
                RendezvousDesk desk = Desks.live(p);
                Desks.receive(desk, p, 0);
                check.due("run(" + seed + ", 1)", 0, desk.run(seed, 1));
                check.place(desk, p, Desks.LOOKING);
            }
        }
    }

    /** "So many times (1 .. 5000) a step of a process": one that is closed answers 3 each time. */
    private static void fewestAndMostSteps(Check check) {
        int[] good = {1, 2, 4999, 5000};
        for (int steps : good) {
            RendezvousDesk desk = Desks.live(3);
            desk.timeout(3, 1);
            desk.offer(3);
            desk.tick();
            check.due("run(1, " + steps + "), closed", steps, desk.run(1, steps));
        }
    }

    /** x of the document, by numbers without a bound. */
    private static List<Integer> chosen(int seed, int steps, int... live) {
        BigInteger bound = BigInteger.ONE.shiftLeft(31);
        BigInteger x = BigInteger.valueOf(seed).mod(bound);
        List<Integer> row = new ArrayList<>();
        for (int i = 0; i < steps; i++) {
            x = x.multiply(BigInteger.valueOf(1103515245)).add(BigInteger.valueOf(12345)).mod(bound);
            row.add(live[(int) (x.longValue() / 65536 % live.length)]);
        }
        return row;
    }

    /** "of the live ones, by their numbers, the one number x / 65536 modulo how many there are" */
    private static void whoSteps(Check check) {
        int[][] sets = {{0}, {15}, {0, 15}, {2, 5, 7}, {1, 2, 3, 4, 5, 6, 7, 8, 9, 10, 11, 12, 13, 14, 15},
            {0, 1, 2, 3, 4, 5, 6, 7, 8, 9, 10, 11, 12, 13, 14, 15}};
        for (int[] live : sets) {
            for (int seed : SEEDS) {
                RendezvousDesk desk = new RendezvousDesk();
                for (int i = live.length - 1; i >= 0; i--) {
                    desk.spawn(live[i]);
                    for (int g = 0; g < 4; g++) {
                        desk.guard(live[i], 0, 0, 0, true);
                    }
                    desk.offer(live[i]);
                }
                // Up to four steps each publish one entry, so the list tells who stepped.
                List<Integer> want = chosen(seed, 4, live);
                desk.run(seed, 4);
                for (int i = 0; i < 4; i++) {
                    check.due("who did step " + i + " of run(" + seed + ", 4)", want.get(i),
                            desk.waiting(0, i, 0));
                }
            }
        }
    }

    /** "x, seed's lowest 31 bits at first": the sign of the seed does not matter. */
    private static void lowestBitsOfTheSeed(Check check) {
        for (int seed : SEEDS) {
            RendezvousDesk one = crowd();
            RendezvousDesk two = crowd();
            check.due("run(" + seed + ", 300)", one.run(seed, 300), two.run(seed ^ Integer.MIN_VALUE, 300));
            check.same("with seed " + seed, Shown.of(one), Shown.of(two));
        }
    }

    /** Each call begins with its own seed, whatever ran before. */
    private static void theSeedBeginsAnew(Check check) {
        RendezvousDesk desk = Desks.live(0, 1, 2, 3, 4);
        for (int p = 0; p < 5; p++) {
            for (int g = 0; g < 4; g++) {
                desk.guard(p, 0, 0, 0, true);
            }
            desk.offer(p);
        }
        for (int i = 0; i < 4; i++) {
            desk.run(77, 1);
            check.due("run(77, 1) again", chosen(77, 1, 0, 1, 2, 3, 4).get(0), desk.waiting(0, i, 0));
        }
    }

    private static RendezvousDesk crowd() {
        RendezvousDesk desk = Desks.live(15, 13, 11, 9, 7, 5, 3, 1);
        for (int p = 1; p < 16; p += 2) {
            desk.guard(p, p / 2 % 2, p % 3, p, true);
            desk.guard(p, p / 4 % 2, 4, p, true);
            desk.timeout(p, p == 9 ? 1 : 0);
            desk.offer(p);
        }
        desk.tick();
        return desk;
    }

    private static void sameAsTheStepsOneByOne(Check check) {
        int[] many = {1, 2, 17, 60, 150};
        for (int seed : SEEDS) {
            for (int steps : many) {
                RendezvousDesk ran = crowd();
                RendezvousDesk stepped = crowd();
                check.due("run(" + seed + ", " + steps + ")", stepByStep(stepped, seed, steps),
                        ran.run(seed, steps));
                check.same("behind run(" + seed + ", " + steps + ")", Shown.of(stepped), Shown.of(ran));
            }
        }
    }

    private static long stepByStep(RendezvousDesk desk, int seed, int steps) {
        int ended = 0;
        for (int p : chosen(seed, steps, 1, 3, 5, 7, 9, 11, 13, 15)) {
            int answer = desk.step(p);
            ended += answer == 2 || answer == 3 ? 1 : 0;
        }
        return ended;
    }

    /** "How many steps answered 2 or 3": not 0, 1 or 4. */
    private static void countsTwosAndThreesAlone(Check check) {
        RendezvousDesk idle = Desks.live(3);
        check.due("idle", 0, idle.run(1, 50));
        RendezvousDesk asleep = Desks.live(3);
        asleep.offer(3);
        check.due("asleep", 0, asleep.run(1, 50));
        RendezvousDesk paired = Desks.live(1);
        paired.spawn(2);
        Desks.send(paired, 2, 0, 10);
        paired.step(2);
        Desks.receive(paired, 1, 0);
        Desks.steps(paired, 1, 6);
        check.due("both paired", 50, paired.run(1, 50));
    }
}

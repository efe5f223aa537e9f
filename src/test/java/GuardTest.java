import java.util.function.Supplier;

/** Promise 3: a guard for the next offer. */
public final class GuardTest {
    public static void main(String[] args) {
        Check check = new Check();
        upToFour(check);
        aFifthIsRefused(check);
        kinds(check);
        values(check);
        matching(check);
        forTheNextOfferAlone(check);
        notIdle(check);
        guardsThatAreOff(check);
        check.exitIfWrong();
    }

    /** "up to four GUARDS, numbered from 0": offers with none, one, and so on to four. */
    private static void upToFour(Check check) {
        for (int many = 0; many <= 4; many++) {
            RendezvousDesk desk = Desks.live(3);
            for (int g = 0; g < many; g++) {
                check.due("guard " + g, g, desk.guard(3, g % 2, g, 0, true));
            }
            desk.offer(3);
            for (int g = 0; g < many; g++) {
                check.place(desk, 3, Desks.PUBLISHING);
                check.steps(desk, 3, 0);
                check.list(desk, g, new int[] {3, 1, g});
            }
            check.due("entries of " + many + " guards", many, desk.count(3));
            check.place(desk, 3, many == 0 ? Desks.ASLEEP : Desks.LOOKING);
        }
    }

    private static RendezvousDesk withGuards(int many, boolean on) {
        RendezvousDesk desk = Desks.live(3);
        for (int g = 0; g < many; g++) {
            desk.guard(3, 0, 5, 0, on);
        }
        return desk;
    }

    /** "UnsupportedOperationException, when it ... has four": ON or off counts alike. */
    private static void aFifthIsRefused(Check check) {
        check.due("a fourth guard", 3, withGuards(3, true).guard(3, 0, 0, 0, true));
        check.due("a fourth guard", 3, withGuards(3, false).guard(3, 0, 0, 0, false));
        Supplier<RendezvousDesk> allOn = () -> withGuards(4, true);
        Supplier<RendezvousDesk> allOff = () -> withGuards(4, false);
        check.refused("a fifth guard", Check.UNSUPPORTED, allOn, d -> d.guard(3, 1, 7, 8, true));
        check.refused("a fifth guard, off", Check.UNSUPPORTED, allOn, d -> d.guard(3, 1, 7, 8, false));
        check.refused("a fifth behind four off", Check.UNSUPPORTED, allOff,
                d -> d.guard(3, 1, 7, 8, true));
        RendezvousDesk desk = withGuards(4, true);
        desk.offer(3);
        desk.cancel(3);
        check.due("the first guard of the next offer", 0, desk.guard(3, 0, 0, 0, true));
    }

    /** "kind 0 is a receive, 1 a send. IllegalArgumentException, when kind or channel are none" */
    private static void kinds(Check check) {
        int[] noKinds = {-1, 2, Integer.MIN_VALUE, Integer.MAX_VALUE};
        for (int kind : noKinds) {
            check.refused("kind " + kind, Check.ILLEGAL_ARGUMENT, () -> withGuards(1, true),
                    desk -> desk.guard(3, kind, 0, 0, true));
            check.refused("kind " + kind + ", off", Check.ILLEGAL_ARGUMENT, () -> withGuards(1, true),
                    desk -> desk.guard(3, kind, 0, 0, false));
        }
        for (int kind = 0; kind <= 1; kind++) {
            RendezvousDesk desk = Desks.live(8, 9);
            check.due("kind " + kind, 0, desk.guard(8, kind, 0, 80, true));
            check.due("kind " + (1 - kind), 0, desk.guard(9, 1 - kind, 0, 90, true));
            desk.offer(8);
            desk.offer(9);
            desk.run(1, 100);
            check.due("who sent", kind == 1 ? 8 : 9, desk.pair(0, 3));
        }
    }

    /** "each a send of a value": every int, and a receive's own value is told by nothing. */
    private static void values(Check check) {
        int[] values = {Integer.MIN_VALUE, -1, 0, 1, Integer.MAX_VALUE};
        for (int value : values) {
            RendezvousDesk desk = Desks.live(0, 1);
            desk.guard(0, 1, 2, value, true);
            desk.guard(1, 0, 2, 77, true);
            desk.offer(0);
            desk.offer(1);
            desk.run(3, 100);
            check.due("the value of the pair", value, desk.pair(0, 4));
            check.due("the value received", value, desk.process(1, 6));
            check.due("0 when it sent", 0, desk.process(0, 6));
        }
    }

    /** "Two guards MATCH, when one is a send, the other a receive, and they are on one channel." */
    private static void matching(Check check) {
        for (int kind = 0; kind <= 1; kind++) {
            for (int otherKind = 0; otherKind <= 1; otherKind++) {
                check.due("kinds " + kind + " and " + otherKind, kind != otherKind,
                        pairs(kind, otherKind, 6, 6));
                check.due("kinds " + kind + " and " + otherKind + " on two channels", false,
                        pairs(kind, otherKind, 6, 7));
            }
        }
    }

    private static boolean pairs(int kind, int otherKind, int channel, int otherChannel) {
        RendezvousDesk desk = Desks.live(0, 1);
        desk.guard(0, kind, channel, 8, true);
        desk.guard(1, otherKind, otherChannel, 9, true);
        desk.offer(0);
        desk.offer(1);
        desk.run(1, 200);
        return desk.count(2) == 1;
    }

    /** "A guard for the next offer": the one behind it has none. */
    private static void forTheNextOfferAlone(Check check) {
        RendezvousDesk desk = withGuards(2, true);
        desk.offer(3);
        Desks.steps(desk, 3, 2);
        check.due("entries", 2, desk.count(3));
        desk.cancel(3);
        desk.offer(3);
        check.place(desk, 3, Desks.ASLEEP);
        check.due("entries", 0, desk.count(3));
    }

    /** "UnsupportedOperationException, when it is not idle": wherever it is. */
    private static void notIdle(Check check) {
        for (int place = Desks.PUBLISHING; place <= Desks.END; place++) {
            int at = place;
            check.refused("guard(5, ...) at place " + at, Check.UNSUPPORTED, () -> Desks.fiveAt(at),
                    desk -> desk.guard(5, 0, 0, 0, true));
        }
        check.due("idle", 0, Desks.fiveAt(Desks.IDLE).guard(5, 0, 0, 0, true));
        RendezvousDesk paired = Desks.twoPairedAt(Desks.ASLEEP);
        check.throwing("paired, but not finished", Check.UNSUPPORTED, () -> paired.guard(2, 0, 0, 0, true));
        RendezvousDesk closed = Desks.fiveClosedAt(Desks.LOOKING);
        check.throwing("closed, but not finished", Check.UNSUPPORTED, () -> closed.guard(5, 0, 0, 0, true));
    }

    /** "Guards that are off are passed over in all that follows": all sixteen ways of four guards. */
    private static void guardsThatAreOff(Check check) {
        for (int mask = 0; mask < 16; mask++) {
            RendezvousDesk desk = Desks.live(3, 9);
            for (int g = 0; g < 4; g++) {
                check.due("guard " + g, g, desk.guard(3, 0, g, 0, (mask >> g & 1) == 1));
                desk.guard(9, 1, 3 - g, 90 - g, true);
            }
            desk.offer(3);
            check.place(desk, 3, mask == 0 ? Desks.ASLEEP : Desks.PUBLISHING);
            Desks.steps(desk, 3, Integer.bitCount(mask));
            for (int g = 0; g < 4; g++) {
                if ((mask >> g & 1) == 1) {
                    check.list(desk, g, new int[] {3, 1, g});
                } else {
                    check.list(desk, g);
                }
            }
            check.place(desk, 3, mask == 0 ? Desks.ASLEEP : Desks.LOOKING);
            lookingPassesOver(check, desk, mask);
        }
    }

    /** Its lists hold its own entries alone: two steps for each guard that is on, then asleep. */
    private static void lookingPassesOver(Check check, RendezvousDesk desk, int mask) {
        int looks = 2 * Integer.bitCount(mask);
        for (int i = 1; i <= looks; i++) {
            check.steps(desk, 3, i == looks ? 1 : 0);
        }
        desk.offer(9);
        desk.run(5, 400);
        check.due("paired with mask " + mask, mask != 0, desk.count(2) == 1);
        if (mask != 0) {
            int highest = 31 - Integer.numberOfLeadingZeros(mask);
            check.due("the guard with mask " + mask, highest, desk.process(3, 5));
            check.due("the other's guard", 3 - highest, desk.process(9, 5));
            check.due("the channel", highest, desk.pair(0, 2));
            check.due("the value", 90 - (3 - highest), desk.process(3, 6));
        }
    }
}

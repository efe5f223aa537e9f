/** Desks as the tests need them. */
final class Desks {
    static final int PUBLISHING = 0;
    static final int LOOKING = 1;
    static final int FIRST = 2;
    static final int SECOND = 3;
    static final int BACK = 4;
    static final int TELLING = 5;
    static final int CLOSING = 6;
    static final int ASLEEP = 7;
    static final int END = 8;
    static final int IDLE = 9;

    static final int CLOSED = 0;
    static final int OPEN = 1;
    static final int HELD = 2;
    static final int PAIRED = 3;

    static final int NONE = RendezvousDesk.NONE;

    private Desks() {
    }

    static RendezvousDesk live(int... processes) {
        RendezvousDesk desk = new RendezvousDesk();
        for (int p : processes) {
            desk.spawn(p);
        }
        return desk;
    }

    static RendezvousDesk allLive() {
        return live(0, 1, 2, 3, 4, 5, 6, 7, 8, 9, 10, 11, 12, 13, 14, 15);
    }

    static void receive(RendezvousDesk desk, int p, int channel) {
        desk.guard(p, 0, channel, 0, true);
        desk.offer(p);
    }

    static void send(RendezvousDesk desk, int p, int channel, int value) {
        desk.guard(p, 1, channel, value, true);
        desk.offer(p);
    }

    static void steps(RendezvousDesk desk, int p, int times) {
        for (int i = 0; i < times; i++) {
            desk.step(p);
        }
    }

    /** Process 1 receives from process 2 on channel 0, which sends 10; 1 is at the place told. */
    static RendezvousDesk tellerAt(int place) {
        RendezvousDesk desk = live(1, 2);
        send(desk, 2, 0, 10);
        desk.step(2);
        receive(desk, 1, 0);
        stepTo(desk, 1, place);
        return desk;
    }

    /** Process 5 is at SECOND with process 2 held, its own state OPEN; ticks as told for 5. */
    static RendezvousDesk higherAtSecond(int ticks) {
        RendezvousDesk desk = live(2, 5, 7);
        send(desk, 2, 3, 20);
        desk.step(2);
        desk.timeout(5, ticks);
        receive(desk, 5, 3);
        steps(desk, 5, 3);
        return desk;
    }

    /**
     * Process 5, live with 2 and 7, at any place from 0 to 9. With an offer it has 3 ticks, receives
     * on channel 3, where 2 sends 20 (but not when 5 is to sleep), and sends 50 on channel 4; at BACK
     * it still holds 2, and 7 holds it.
     */
    static RendezvousDesk fiveAt(int place) {
        RendezvousDesk desk = live(2, 5, 7);
        if (place != ASLEEP) {
            send(desk, 2, 3, 20);
            desk.step(2);
        }
        if (place == IDLE) {
            return desk;
        }
        desk.timeout(5, 3);
        desk.guard(5, 0, 3, 0, true);
        desk.guard(5, 1, 4, 50, true);
        desk.offer(5);
        if (place == BACK) {
            stepTo(desk, 5, SECOND);
            receive(desk, 7, 4);
            stepTo(desk, 7, SECOND);
        }
        stepTo(desk, 5, place);
        return desk;
    }

    /** Process 5 as above, its time over at that place. */
    static RendezvousDesk fiveClosedAt(int place) {
        RendezvousDesk desk = fiveAt(place);
        for (int i = 0; i < 3; i++) {
            desk.tick();
        }
        return desk;
    }

    /** 7 gave 5 back because its own time was over, so 5 is OPEN at BACK and holds 2; one tick gone. */
    static RendezvousDesk fiveOpenAtBack() {
        RendezvousDesk desk = fiveAt(SECOND);
        desk.timeout(7, 1);
        receive(desk, 7, 4);
        stepTo(desk, 7, SECOND);
        desk.step(5);
        desk.tick();
        steps(desk, 7, 2);
        return desk;
    }

    /** Process 2, PAIRED with 5, which has told it while 2 was at that place. */
    static RendezvousDesk twoPairedAt(int place) {
        RendezvousDesk desk = live(2, 5, 7);
        desk.guard(2, 1, 3, 20, true);
        if (place == PUBLISHING) {
            desk.guard(2, 1, 4, 21, true);
        }
        desk.offer(2);
        desk.step(2);
        receive(desk, 5, 3);
        if (place == FIRST) {
            desk.step(5);
        }
        stepTo(desk, 2, place);
        stepTo(desk, 5, CLOSING);
        return desk;
    }

    /** Process 5 at SECOND or BACK, where it holds 2, PAIRED by 7 by its guard 1. */
    static RendezvousDesk fivePairedAt(int place) {
        RendezvousDesk desk = fiveAt(SECOND);
        receive(desk, 7, 4);
        stepTo(desk, 7, CLOSING);
        stepTo(desk, 5, place);
        return desk;
    }

    static void stepTo(RendezvousDesk desk, int p, int place) {
        for (int i = 0; i < 20 && desk.process(p, 3) != place; i++) {
            desk.step(p);
        }
        if (desk.process(p, 3) != place) {
            throw new AssertionError("process " + p + " never came to place " + place);
        }
    }

    /** Sixteen processes, each with four receives on the channel, all published: 64 entries. */
    static RendezvousDesk fullList(int channel, int ticks) {
        RendezvousDesk desk = allLive();
        for (int p = 0; p < 16; p++) {
            for (int g = 0; g < 4; g++) {
                desk.guard(p, 0, channel, 0, true);
            }
            desk.timeout(p, ticks);
            desk.offer(p);
            steps(desk, p, 4);
        }
        return desk;
    }
}

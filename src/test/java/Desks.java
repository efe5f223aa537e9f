/** Desks as the tests need them. */
final class Desks {
    static final int PUBLISHING = 0;
    static final int LOOKING = 1;
    static final int FIRST = 2;
    static final int SECOND = 3;
    static final int BACK = 4;
    static final int TELLING = 5;
    static final int CLOSING = 6;
    static final int ASLEEP = 7;
    static final int END = 8;
    static final int IDLE = 9;

    static final int CLOSED = 0;
    static final int OPEN = 1;
    static final int HELD = 2;
    static final int PAIRED = 3;

    static final int NONE = RendezvousDesk.NONE;

    private Desks() {
    }

    static RendezvousDesk live(int... processes) {
        RendezvousDesk desk = new RendezvousDesk();
        for (int p : processes) {
            desk.spawn(p);
        }
        return desk;
    }

    static void receive(RendezvousDesk desk, int p, int channel) {
        desk.guard(p, 0, channel, 0, true);
        desk.offer(p);
    }

    static void send(RendezvousDesk desk, int p, int channel, int value) {
        desk.guard(p, 1, channel, value, true);
        desk.offer(p);
    }

    static void steps(RendezvousDesk desk, int p, int times) {
        for (int i = 0; i < times; i++) {
            desk.step(p);
        }
    }

    /** Process 1 receives from process 2 on channel 0, which sends 10; 1 is at the place told. */
    static RendezvousDesk tellerAt(int place) {
        RendezvousDesk desk = live(1, 2);
        send(desk, 2, 0, 10);
        desk.step(2);
        receive(desk, 1, 0);
        for (int i = 0; i < 10 && desk.process(1, 3) != place; i++) {
            desk.step(1);
        }
        return desk;
    }

    /** Process 5 is at SECOND with process 2 held, its own state OPEN; ticks as told for 5. */
    static RendezvousDesk higherAtSecond(int ticks) {
        RendezvousDesk desk = live(2, 5, 7);
        send(desk, 2, 3, 20);
        desk.step(2);
        desk.timeout(5, ticks);
        receive(desk, 5, 3);
        steps(desk, 5, 3);
        return desk;
    }
}

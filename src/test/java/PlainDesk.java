import java.util.ArrayList;
import java.util.List;
import java.util.function.Supplier;

/**
 * The document written down a second time, as plainly as the Java library allows, for the test that
 * compares random runs. It shares nothing with the program.
 */
final class PlainDesk {
    record Guard(boolean send, int channel, int value, boolean on, int number) {
    }

    record Entry(Process process, int version, Guard guard) {
    }

    /** What a process keeps from TELLING to CLOSING. */
    record Kept(Process partner, Guard guard, int received) {
    }

    record Pair(int teller, int other, int channel, int sender, int value) {
    }

    enum State { CLOSED, OPEN, HELD, PAIRED }

    enum Place { PUBLISHING, LOOKING, FIRST, SECOND, BACK, TELLING, CLOSING, ASLEEP, END, IDLE }

    static final class Process {
        final int number;
        State state = State.CLOSED;
        int version = 0;
        Process holder = null;
        Place place = Place.IDLE;
        List<Guard> guards = new ArrayList<>();
        int ticks = 0;
        int begun = 0;
        List<Guard> toPublish = new ArrayList<>();
        int guardIndex = 0;
        int entryIndex = 0;
        boolean clean = false;
        Entry found = null;
        Kept kept = null;
        Process partner = null;
        int pairedGuard = -1;
        int received = 0;

        Process(int number) {
            this.number = number;
        }

        List<Guard> on() {
            return guards.stream().filter(Guard::on).toList();
        }

        boolean over() {
            boolean ended = state == State.PAIRED || state == State.CLOSED;
            return place == Place.END || ended && (place == Place.PUBLISHING || place == Place.LOOKING
                    || place == Place.FIRST || place == Place.ASLEEP);
        }
    }

    private final Process[] processes = new Process[16];
    private final List<List<Entry>> lists = new ArrayList<>();
    private final List<Pair> pairs = new ArrayList<>();
    private int ticks = 0;

    PlainDesk() {
        for (int c = 0; c < 8; c++) {
            lists.add(new ArrayList<>());
        }
    }

    private Process live(int p) {
        if (p < 0 || p > 15) {
            throw new IndexOutOfBoundsException();
        }
        if (processes[p] == null) {
            throw new IllegalStateException();
        }
        return processes[p];
    }

    private static void need(boolean holds, Supplier<RuntimeException> otherwise) {
        if (!holds) {
            throw otherwise.get();
        }
    }

    void spawn(int p) {
        need(p >= 0 && p <= 15, IndexOutOfBoundsException::new);
        need(processes[p] == null, IllegalStateException::new);
        processes[p] = new Process(p);
    }

    int guard(int p, int kind, int channel, int value, boolean on) {
        Process me = live(p);
        need(kind == 0 || kind == 1, IllegalArgumentException::new);
        need(channel >= 0 && channel <= 7, IllegalArgumentException::new);
        need(me.place == Place.IDLE && me.guards.size() < 4, UnsupportedOperationException::new);
        me.guards.add(new Guard(kind == 1, channel, value, on, me.guards.size()));
        return me.guards.size() - 1;
    }

    int timeout(int p, int newTicks) {
        Process me = live(p);
        need(newTicks >= 0 && newTicks <= 1000, IllegalArgumentException::new);
        need(me.place == Place.IDLE, UnsupportedOperationException::new);
        int before = me.ticks;
        me.ticks = newTicks;
        return before;
    }

    int offer(int p) {
        Process me = live(p);
        need(me.place == Place.IDLE, UnsupportedOperationException::new);
        me.version++;
        me.state = State.OPEN;
        me.begun = ticks;
        me.toPublish = new ArrayList<>(me.on());
        me.place = me.toPublish.isEmpty() ? Place.ASLEEP : Place.PUBLISHING;
        return me.version;
    }

    int step(int p) {
        Process me = live(p);
        if (me.place == Place.IDLE) {
            return 4;
        }
        if (me.over()) {
            me.place = Place.END;
        } else {
            move(me);
        }
        if (me.place == Place.END) {
            return me.state == State.PAIRED ? 2 : 3;
        }
        return me.place == Place.ASLEEP ? 1 : 0;
    }

    private void move(Process me) {
        Process first = me.found == null ? null : me.number < me.found.process.number ? me : me.found.process;
        Process second = me.found == null ? null : first == me ? me.found.process : me;
        switch (me.place) {
            case PUBLISHING -> {
                Guard guard = me.toPublish.remove(0);
                lists.get(guard.channel).add(new Entry(me, me.version, guard));
                if (me.toPublish.isEmpty()) {
                    round(me);
                }
            }
            case LOOKING -> look(me);
            case FIRST -> {
                if (take(me, first)) {
                    me.place = Place.SECOND;
                } else {
                    nextEntry(me);
                }
            }
            case SECOND -> me.place = take(me, second) ? Place.TELLING : Place.BACK;
            case BACK -> {
                first.state = State.OPEN;
                first.holder = null;
                nextEntry(me);
            }
            case TELLING -> {
                Guard mine = me.on().get(me.guardIndex);
                Guard its = me.found.guard;
                me.kept = new Kept(me.found.process, mine, mine.send ? 0 : its.value);
                paired(me.found.process, me, its, its.send ? 0 : mine.value);
                Process sender = mine.send ? me : me.found.process;
                pairs.add(new Pair(me.number, me.found.process.number, mine.channel, sender.number,
                        mine.send ? mine.value : its.value));
                me.place = Place.CLOSING;
            }
            case CLOSING -> {
                paired(me, me.kept.partner, me.kept.guard, me.kept.received);
                me.place = Place.END;
            }
            default -> {
            }
        }
    }

    private static void paired(Process one, Process with, Guard by, int received) {
        one.state = State.PAIRED;
        one.holder = null;
        one.partner = with;
        one.pairedGuard = by.number;
        one.received = received;
    }

    private static void round(Process me) {
        me.place = Place.LOOKING;
        me.guardIndex = 0;
        me.entryIndex = 0;
        me.clean = true;
    }

    private static void nextEntry(Process me) {
        me.place = Place.LOOKING;
        me.entryIndex++;
    }

    private void look(Process me) {
        Guard mine = me.on().get(me.guardIndex);
        List<Entry> list = lists.get(mine.channel);
        if (me.entryIndex < list.size()) {
            Entry entry = list.get(me.entryIndex);
            if (entry.process != me && entry.guard.send != mine.send) {
                me.found = entry;
                me.place = Place.FIRST;
            } else {
                me.entryIndex++;
            }
        } else if (me.guardIndex + 1 < me.on().size()) {
            me.guardIndex++;
            me.entryIndex = 0;
        } else if (me.clean) {
            me.place = Place.ASLEEP;
        } else {
            round(me);
        }
    }

    private static boolean take(Process me, Process one) {
        int version = one == me ? me.version : me.found.version;
        if (one.version == version && one.state == State.OPEN) {
            one.state = State.HELD;
            one.holder = me;
            return true;
        }
        if (one.version == version && one.state == State.HELD) {
            me.clean = false;
        }
        return false;
    }

    int tick() {
        ticks++;
        int closed = 0;
        for (Process each : processes) {
            if (each != null && each.state == State.OPEN && each.ticks > 0
                    && ticks - each.begun >= each.ticks) {
                each.state = State.CLOSED;
                closed++;
            }
        }
        return closed;
    }

    private void end(Process me) {
        for (List<Entry> list : lists) {
            list.removeIf(entry -> entry.process == me);
        }
        for (Process each : processes) {
            if (each != null) {
                each.clean = false;
            }
        }
        me.state = State.CLOSED;
        me.place = Place.IDLE;
        me.guards = new ArrayList<>();
        me.ticks = 0;
    }

    boolean cancel(int p) {
        Process me = live(p);
        need(me.place != Place.IDLE, UnsupportedOperationException::new);
        if (me.state != State.OPEN || me.place == Place.SECOND || me.place == Place.BACK) {
            return false;
        }
        end(me);
        return true;
    }

    int finish(int p) {
        Process me = live(p);
        need(me.over(), UnsupportedOperationException::new);
        int partner = me.state == State.PAIRED ? me.partner.number : -1;
        end(me);
        return partner;
    }

    int process(int p, int what) {
        Process me = live(p);
        need(what >= 0 && what <= 6, IndexOutOfBoundsException::new);
        boolean paired = me.state == State.PAIRED;
        return switch (what) {
            case 0 -> me.state.ordinal();
            case 1 -> me.version;
            case 2 -> me.holder == null ? -1 : me.holder.number;
            case 3 -> me.place.ordinal();
            case 4 -> paired ? me.partner.number : -1;
            case 5 -> paired ? me.pairedGuard : -1;
            default -> paired ? me.received : 0;
        };
    }

    int waiting(int channel, int i, int what) {
        need(channel >= 0 && channel <= 7 && what >= 0 && what <= 2, IndexOutOfBoundsException::new);
        need(i >= 0 && i < lists.get(channel).size(), IndexOutOfBoundsException::new);
        Entry entry = lists.get(channel).get(i);
        return what == 0 ? entry.process.number : what == 1 ? entry.version : entry.guard.number;
    }

    int pair(int k, int what) {
        need(k >= 0 && k < pairs.size() && what >= 0 && what <= 4, IndexOutOfBoundsException::new);
        Pair pair = pairs.get(k);
        return new int[] {pair.teller, pair.other, pair.channel, pair.sender, pair.value}[what];
    }

    int run(int seed, int steps) {
        need(steps >= 1 && steps <= 5000, IllegalArgumentException::new);
        List<Integer> live = new ArrayList<>();
        for (int p = 0; p < 16; p++) {
            if (processes[p] != null) {
                live.add(p);
            }
        }
        need(!live.isEmpty(), IllegalStateException::new);
        long x = seed & 0x7fffffffL;
        int ended = 0;
        for (int i = 0; i < steps; i++) {
            x = (1103515245L * x + 12345L) % (1L << 31);
            int answer = step(live.get((int) (x / 65536 % live.size())));
            ended += answer == 2 || answer == 3 ? 1 : 0;
        }
        return ended;
    }

    int count(int what) {
        int live = 0;
        int offers = 0;
        for (Process each : processes) {
            live += each != null ? 1 : 0;
            offers += each != null && each.place != Place.IDLE ? 1 : 0;
        }
        int entries = lists.stream().mapToInt(List::size).sum();
        return switch (what) {
            case 0 -> live;
            case 1 -> offers;
            case 2 -> pairs.size();
            case 3 -> entries;
            case 4 -> ticks;
            default -> -1;
        };
    }
}

/**
 * Processes that wait for sends and receives at once and are paired without anyone in the middle.
 * Each step of a process makes at most one access to common memory: a list or one state.
 */
public final class RendezvousDesk {
    /** Nothing there. */
    public static final int NONE = -1;

    private static final int PROCESSES = 16;
    private static final int CHANNELS = 8;
    private static final int GUARDS = 4;
    private static final int MOST_TICKS = 1000;
    private static final int MOST_STEPS = 5000;

    // A pair takes two guards and two offers, four calls of the 512 that an object is used for.
    private static final int MOST_PAIRS = 128;

    private static final int RECEIVE = 0;
    private static final int SEND = 1;

    private static final int CLOSED = 0;
    private static final int OPEN = 1;
    private static final int HELD = 2;
    private static final int PAIRED = 3;

    private static final int PUBLISHING = 0;
    private static final int LOOKING = 1;
    private static final int FIRST = 2;
    private static final int SECOND = 3;
    private static final int BACK = 4;
    private static final int TELLING = 5;
    private static final int CLOSING = 6;
    private static final int ASLEEP = 7;
    private static final int END = 8;
    private static final int IDLE = 9;

    private static final int ANSWER_GOES_ON = 0;
    private static final int ANSWER_ASLEEP = 1;
    private static final int ANSWER_PAIRED = 2;
    private static final int ANSWER_TIMED_OUT = 3;
    private static final int ANSWER_IDLE = 4;

    private static final int LOWEST_31_BITS = 0x7fffffff;

    private final Peer[] peers = new Peer[PROCESSES];
    private final WaitingList[] lists = new WaitingList[CHANNELS];
    private final PairLog log = new PairLog();
    private final int[] liveNumbers = new int[PROCESSES];
    private int liveCount;
    private int ticksSoFar;

    public RendezvousDesk() {
        for (int p = 0; p < PROCESSES; p++) {
            peers[p] = new Peer(p);
        }
        for (int c = 0; c < CHANNELS; c++) {
            lists[c] = new WaitingList();
        }
    }

    public void spawn(int p) throws IndexOutOfBoundsException, IllegalStateException {
        Peer peer = peerAt(p);
        if (peer.live) {
            throw new IllegalStateException("the process is live already");
        }
        peer.live = true;
        numberTheLiveOnes();
    }

    public int guard(int p, int kind, int channel, int value, boolean on)
            throws IndexOutOfBoundsException, IllegalStateException, IllegalArgumentException,
            UnsupportedOperationException {
        Peer peer = livePeerAt(p);
        if ((kind != RECEIVE && kind != SEND) || !isChannel(channel)) {
            throw new IllegalArgumentException("no such kind or channel");
        }
        if (peer.place != IDLE || peer.guardCount >= GUARDS) {
            throw new UnsupportedOperationException("not idle, or four guards already");
        }
        return peer.addGuard(kind, channel, value, on);
    }

    public int timeout(int p, int ticks)
            throws IndexOutOfBoundsException, IllegalStateException, IllegalArgumentException,
            UnsupportedOperationException {
        Peer peer = livePeerAt(p);
        if (ticks < 0 || ticks > MOST_TICKS) {
            throw new IllegalArgumentException("no such number of ticks");
        }
        requireIdle(peer);
        int before = peer.ticks;
        peer.ticks = ticks;
        return before;
    }

    public int offer(int p)
            throws IndexOutOfBoundsException, IllegalStateException, UnsupportedOperationException {
        Peer peer = livePeerAt(p);
        requireIdle(peer);
        peer.beginOffer();
        return peer.state.version;
    }

    public int step(int p) throws IndexOutOfBoundsException, IllegalStateException {
        return takeStep(livePeerAt(p));
    }

    public int tick() {
        ticksSoFar++;
        int closed = 0;
        for (int p = 0; p < PROCESSES; p++) {
            if (peers[p].place != IDLE && peers[p].tickCloses()) {
                closed++;
            }
        }
        return closed;
    }

    public boolean cancel(int p)
            throws IndexOutOfBoundsException, IllegalStateException, UnsupportedOperationException {
        Peer peer = livePeerAt(p);
        if (peer.place == IDLE) {
            throw new UnsupportedOperationException("the process is idle");
        }
        if (peer.state.mark != OPEN || holdsSomething(peer)) {
            return false;
        }
        endOffer(peer);
        return true;
    }

    public int finish(int p)
            throws IndexOutOfBoundsException, IllegalStateException, UnsupportedOperationException {
        Peer peer = livePeerAt(p);
        if (!peer.isAtItsEnd()) {
            throw new UnsupportedOperationException("no offer that came to its end");
        }
        int partner = peer.state.partnerOrNone();
        endOffer(peer);
        return partner;
    }

    public int process(int p, int what) throws IndexOutOfBoundsException, IllegalStateException {
        Peer peer = livePeerAt(p);
        switch (what) {
            case 0:
                return peer.state.mark;
            case 1:
                return peer.state.version;
            case 2:
                return peer.state.holder;
            case 3:
                return peer.place;
            case 4:
                return peer.state.partnerOrNone();
            case 5:
                return peer.state.guardOrNone();
            case 6:
                return peer.state.receivedOrZero();
            default:
                throw new IndexOutOfBoundsException("no such what");
        }
    }

    public int waiting(int channel, int i, int what) throws IndexOutOfBoundsException {
        if (!isChannel(channel) || i < 0 || i >= lists[channel].size) {
            throw new IndexOutOfBoundsException("no such channel or entry");
        }
        switch (what) {
            case 0:
                return lists[channel].processes[i];
            case 1:
                return lists[channel].versions[i];
            case 2:
                return lists[channel].guards[i];
            default:
                throw new IndexOutOfBoundsException("no such what");
        }
    }

    public int pair(int k, int what) throws IndexOutOfBoundsException {
        if (k < 0 || k >= log.size) {
            throw new IndexOutOfBoundsException("no such pair");
        }
        switch (what) {
            case 0:
                return log.tellers[k];
            case 1:
                return log.others[k];
            case 2:
                return log.channels[k];
            case 3:
                return log.senders[k];
            case 4:
                return log.values[k];
            default:
                throw new IndexOutOfBoundsException("no such what");
        }
    }

    public int run(int seed, int steps) throws IllegalArgumentException, IllegalStateException {
        if (steps < 1 || steps > MOST_STEPS) {
            throw new IllegalArgumentException("no such number of steps");
        }
        if (liveCount == 0) {
            throw new IllegalStateException("no process is live");
        }
        int x = seed & LOWEST_31_BITS;
        int ended = 0;
        for (int i = 0; i < steps; i++) {
            x = (1103515245 * x + 12345) & LOWEST_31_BITS;
            int answer = takeStep(peers[liveNumbers[x / 65536 % liveCount]]);
            if (answer == ANSWER_PAIRED || answer == ANSWER_TIMED_OUT) {
                ended++;
            }
        }
        return ended;
    }

    public int count(int what) {
        switch (what) {
            case 0:
                return liveCount;
            case 1:
                return offersNow();
            case 2:
                return log.size;
            case 3:
                return entriesNow();
            case 4:
                return ticksSoFar;
            default:
                return NONE;
        }
    }

    private static boolean isChannel(int channel) {
        return channel >= 0 && channel < CHANNELS;
    }

    private Peer peerAt(int p) {
        if (p < 0 || p >= PROCESSES) {
            throw new IndexOutOfBoundsException("no such process");
        }
        return peers[p];
    }

    private Peer livePeerAt(int p) {
        Peer peer = peerAt(p);
        if (!peer.live) {
            throw new IllegalStateException("the process is not live");
        }
        return peer;
    }

    private static void requireIdle(Peer peer) {
        if (peer.place != IDLE) {
            throw new UnsupportedOperationException("the process is not idle");
        }
    }

    private void numberTheLiveOnes() {
        liveCount = 0;
        for (int p = 0; p < PROCESSES; p++) {
            if (peers[p].live) {
                liveNumbers[liveCount] = p;
                liveCount++;
            }
        }
    }

    private int offersNow() {
        int offers = 0;
        for (int p = 0; p < PROCESSES; p++) {
            if (peers[p].place != IDLE) {
                offers++;
            }
        }
        return offers;
    }

    private int entriesNow() {
        int entries = 0;
        for (int c = 0; c < CHANNELS; c++) {
            entries += lists[c].size;
        }
        return entries;
    }

    private boolean holdsSomething(Peer peer) {
        for (int p = 0; p < PROCESSES; p++) {
            if (peers[p].state.holder == peer.number) {
                return true;
            }
        }
        return false;
    }

    private void endOffer(Peer peer) {
        for (int c = 0; c < CHANNELS; c++) {
            lists[c].removeAllOf(peer.number);
        }
        // Entries have moved up, so whoever looks by number may have passed over one unseen.
        for (int p = 0; p < PROCESSES; p++) {
            peers[p].clean = false;
        }
        peer.becomeIdle();
    }

    private int takeStep(Peer me) {
        if (me.isAtItsEnd()) {
            me.place = END;
        } else {
            doWhatIsDue(me);
        }
        return me.answerOfStep();
    }

    private void doWhatIsDue(Peer me) {
        switch (me.place) {
            case PUBLISHING:
                publish(me);
                break;
            case LOOKING:
                look(me);
                break;
            case FIRST:
                claimFirst(me);
                break;
            case SECOND:
                claimSecond(me);
                break;
            case BACK:
                giveBack(me);
                break;
            case TELLING:
                tell(me);
                break;
            case CLOSING:
                me.state.becomePaired();
                me.place = END;
                break;
            default:
                break;
        }
    }

    private void publish(Peer me) {
        int channel = me.guards[me.guardAt].channel;
        lists[channel].append(me.number, me.state.version, me.guardAt);
        int next = me.guardOnFrom(me.guardAt + 1);
        if (next == NONE) {
            me.lookFromTheFirstGuard();
        } else {
            me.guardAt = next;
        }
    }

    private void look(Peer me) {
        WaitingList list = lists[me.guards[me.guardAt].channel];
        if (me.entryAt >= list.size) {
            me.lookForTheNextGuard();
        } else if (suits(me, list)) {
            me.wantedProcess = list.processes[me.entryAt];
            me.wantedVersion = list.versions[me.entryAt];
            me.wantedGuard = list.guards[me.entryAt];
            me.place = FIRST;
        } else {
            me.lookAtTheNextEntry();
        }
    }

    private boolean suits(Peer me, WaitingList list) {
        int other = list.processes[me.entryAt];
        Guard its = peers[other].guards[list.guards[me.entryAt]];
        return other != me.number && its.kind != me.guards[me.guardAt].kind;
    }

    private void claimFirst(Peer me) {
        if (claims(me, firstOfBoth(me))) {
            me.place = SECOND;
        } else {
            me.lookAtTheNextEntry();
        }
    }

    private void claimSecond(Peer me) {
        int second = Math.max(me.number, me.wantedProcess);
        me.place = claims(me, peers[second]) ? TELLING : BACK;
    }

    private void giveBack(Peer me) {
        firstOfBoth(me).state.becomeOpen();
        me.lookAtTheNextEntry();
    }

    private Peer firstOfBoth(Peer me) {
        return peers[Math.min(me.number, me.wantedProcess)];
    }

    private static boolean claims(Peer me, Peer claimed) {
        State state = claimed.state;
        if (claimed.number != me.number && state.version != me.wantedVersion) {
            return false;
        }
        if (state.mark == OPEN) {
            state.becomeHeldBy(me.number);
            return true;
        }
        // Who holds it may give it back, so this one must be asked again before sleeping.
        if (state.mark == HELD) {
            me.clean = false;
        }
        return false;
    }

    private void tell(Peer me) {
        Peer other = peers[me.wantedProcess];
        Guard mine = me.guards[me.guardAt];
        Guard its = other.guards[me.wantedGuard];
        boolean sends = mine.kind == SEND;
        int value = sends ? mine.value : its.value;
        other.state.keepPartner(me.number, me.wantedGuard, sends ? value : 0);
        other.state.becomePaired();
        // Kept now, because the other may be finished and have new guards before CLOSING.
        me.state.keepPartner(other.number, me.guardAt, sends ? 0 : value);
        log.append(me.number, other.number, mine.channel, sends ? me.number : other.number, value);
        me.place = CLOSING;
    }

    /** One send or receive of an offer. */
    private static final class Guard {
        private int kind;
        private int channel;
        private int value;
        private boolean on;
    }

    /** What common memory tells of a process. */
    private static final class State {
        private int mark = CLOSED;
        private int version;
        private int holder = NONE;
        private int partner = NONE;
        private int pairedGuard = NONE;
        private int received;

        private void becomeOpen() {
            mark = OPEN;
            holder = NONE;
        }

        private void becomeHeldBy(int process) {
            mark = HELD;
            holder = process;
        }

        private void becomePaired() {
            mark = PAIRED;
            holder = NONE;
        }

        private void becomeClosed() {
            mark = CLOSED;
            holder = NONE;
        }

        private void keepPartner(int process, int guardNumber, int value) {
            partner = process;
            pairedGuard = guardNumber;
            received = value;
        }

        private int partnerOrNone() {
            return mark == PAIRED ? partner : NONE;
        }

        private int guardOrNone() {
            return mark == PAIRED ? pairedGuard : NONE;
        }

        private int receivedOrZero() {
            return mark == PAIRED ? received : 0;
        }
    }

    /** A process: its state in common memory and what is its own. */
    private static final class Peer {
        private final int number;
        private final State state = new State();
        private final Guard[] guards = new Guard[GUARDS];
        private boolean live;
        private int guardCount;
        private int ticks;
        private int ticksGoneBy;
        private int place = IDLE;
        private int guardAt;
        private int entryAt;
        private boolean clean;
        private int wantedProcess;
        private int wantedVersion;
        private int wantedGuard;

        private Peer(int number) {
            this.number = number;
            for (int g = 0; g < GUARDS; g++) {
                guards[g] = new Guard();
            }
        }

        private int addGuard(int kind, int channel, int value, boolean on) {
            Guard added = guards[guardCount];
            added.kind = kind;
            added.channel = channel;
            added.value = value;
            added.on = on;
            guardCount++;
            return guardCount - 1;
        }

        private int guardOnFrom(int from) {
            for (int g = from; g < guardCount; g++) {
                if (guards[g].on) {
                    return g;
                }
            }
            return NONE;
        }

        private void beginOffer() {
            state.version++;
            state.becomeOpen();
            ticksGoneBy = 0;
            int first = guardOnFrom(0);
            if (first == NONE) {
                place = ASLEEP;
            } else {
                guardAt = first;
                place = PUBLISHING;
            }
        }

        private void becomeIdle() {
            state.becomeClosed();
            guardCount = 0;
            ticks = 0;
            place = IDLE;
        }

        private boolean tickCloses() {
            ticksGoneBy++;
            if (ticks == 0 || ticksGoneBy < ticks || state.mark != OPEN) {
                return false;
            }
            state.becomeClosed();
            return true;
        }

        private void lookFromTheFirstGuard() {
            guardAt = guardOnFrom(0);
            entryAt = 0;
            clean = true;
            place = LOOKING;
        }

        private void lookForTheNextGuard() {
            int next = guardOnFrom(guardAt + 1);
            if (next != NONE) {
                guardAt = next;
                entryAt = 0;
            } else if (clean) {
                place = ASLEEP;
            } else {
                lookFromTheFirstGuard();
            }
        }

        private void lookAtTheNextEntry() {
            entryAt++;
            place = LOOKING;
        }

        // At the other places it still holds a state, or has its own to write.
        private boolean isAtItsEnd() {
            switch (place) {
                case PUBLISHING:
                case LOOKING:
                case FIRST:
                case ASLEEP:
                    return state.mark == PAIRED || state.mark == CLOSED;
                default:
                    return place == END;
            }
        }

        private int answerOfStep() {
            switch (place) {
                case END:
                    return state.mark == PAIRED ? ANSWER_PAIRED : ANSWER_TIMED_OUT;
                case ASLEEP:
                    return ANSWER_ASLEEP;
                case IDLE:
                    return ANSWER_IDLE;
                default:
                    return ANSWER_GOES_ON;
            }
        }
    }

    /** A channel's entries in the order in which they came. */
    private static final class WaitingList {
        // Every guard of every process on one channel: more entries there cannot be.
        private static final int MOST_ENTRIES = PROCESSES * GUARDS;

        private final int[] processes = new int[MOST_ENTRIES];
        private final int[] versions = new int[MOST_ENTRIES];
        private final int[] guards = new int[MOST_ENTRIES];
        private int size;

        private void append(int process, int version, int guardNumber) {
            if (size < MOST_ENTRIES) {
                processes[size] = process;
                versions[size] = version;
                guards[size] = guardNumber;
                size++;
            }
        }

        private void removeAllOf(int process) {
            int kept = 0;
            for (int i = 0; i < size; i++) {
                if (processes[i] != process) {
                    processes[kept] = processes[i];
                    versions[kept] = versions[i];
                    guards[kept] = guards[i];
                    kept++;
                }
            }
            size = kept;
        }
    }

    /** The pairs so far. */
    private static final class PairLog {
        private final int[] tellers = new int[MOST_PAIRS];
        private final int[] others = new int[MOST_PAIRS];
        private final int[] channels = new int[MOST_PAIRS];
        private final int[] senders = new int[MOST_PAIRS];
        private final int[] values = new int[MOST_PAIRS];
        private int size;

        private void append(int teller, int other, int channel, int sender, int value) {
            if (size < MOST_PAIRS) {
                tellers[size] = teller;
                others[size] = other;
                channels[size] = channel;
                senders[size] = sender;
                values[size] = value;
                size++;
            }
        }
    }
}

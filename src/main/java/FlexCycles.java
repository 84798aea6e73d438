/** Nodes that send frames in cycles of slots on two channels and keep their clocks together. */
public final class FlexCycles {
    private static final int UNKNOWN = -1;
    private static final int OUT_OF_RANGE = -2;
    private static final int WRONG_STATE = -3;
    private static final int NO_ROOM = -4;

    private static final int MOST_CYCLES = 500;
    private static final int PLACE_CYCLES = 64;
    private static final int MOST_DRIFT = 200;

    private final int slots;
    private final int minis;
    private final Nodes members;
    private final StaticFrames statics;
    private final DynamicFrames dynamics;
    private final Flips flips;
    private int count;

    public FlexCycles(int nodes, int slots, int minis) {
        this.slots = within(slots, 1, 60) ? slots : 10;
        this.minis = within(minis, 0, 60) ? minis : 20;
        this.members = new Nodes(within(nodes, 1, 16) ? nodes : 4);
        this.statics = new StaticFrames();
        this.dynamics = new DynamicFrames();
        this.flips = new Flips(this.slots);
        this.count = 0;
    }

    public int frame(int node, int slot, int channel, int base, int every) {
        if (!members.has(node) || !hasSlot(slot)) {
            return UNKNOWN;
        }
        if (!within(channel, 1, 3) || !StaticFrames.isEvery(every) || !within(base, 0, every - 1)) {
            return OUT_OF_RANGE;
        }
        if (statics.clashes(slot, channel, base, every)) {
            return WRONG_STATE;
        }
        if (statics.isFull()) {
            return NO_ROOM;
        }
        return statics.add(node, slot, channel, base, every);
    }

    public int dynamic(int node, int mini, int length) {
        if (!members.has(node)) {
            return UNKNOWN;
        }
        if (!within(mini, 1, DynamicFrames.MOST_IDENTITY) || !within(length, 1, 60)) {
            return OUT_OF_RANGE;
        }
        if (dynamics.isFull()) {
            return NO_ROOM;
        }
        return dynamics.add(node, mini, length);
    }

    public int drift(int node, int parts) {
        if (!members.has(node)) {
            return UNKNOWN;
        }
        if (!within(parts, -MOST_DRIFT, MOST_DRIFT)) {
            return OUT_OF_RANGE;
        }
        members.drift[node] = parts;
        return 1;
    }

    public int run(int cycles) {
        if (!within(cycles, 0, MOST_CYCLES)) {
            return OUT_OF_RANGE;
        }
        int done = 0;
        for (int i = 0; i < cycles; i++) {
            done += runOne();
        }
        return done;
    }

    public int state(int node) {
        return members.has(node) ? members.state[node] : UNKNOWN;
    }

    public int offset(int node) {
        return members.has(node) ? members.error[node] : 0;
    }

    public int rate(int node) {
        return members.has(node) ? members.rate[node] : 0;
    }

    public int place(int slot, int cycle) throws ArrayIndexOutOfBoundsException {
        if (!hasSlot(slot) || !within(cycle, 0, PLACE_CYCLES - 1)) {
            throw new ArrayIndexOutOfBoundsException();
        }
        int first = statics.nodeAt(slot, 1, cycle);
        return first != 0 ? first : statics.nodeAt(slot, 2, cycle);
    }

    public int cold(int node, boolean on) {
        if (!members.has(node)) {
            return UNKNOWN;
        }
        members.tellCold(node, on);
        return members.countCold();
    }

    public int flip(int channel, int at) {
        if (!within(channel, 1, 2) || !hasSlot(at)) {
            return UNKNOWN;
        }
        if (flips.has(channel, at)) {
            return WRONG_STATE;
        }
        return flips.add(channel, at);
    }

    public boolean close(int bound) {
        return members.areWithin(bound);
    }

    public int midpoint(int i) {
        return members.has(i) ? members.lastMidpoint[i] : 0;
    }

    private static boolean within(int value, int least, int most) {
        return value >= least && value <= most;
    }

    private boolean hasSlot(int slot) {
        return within(slot, 0, slots - 1);
    }

    private int runOne() {
        members.startUp();
        int done = statics.send(count, members, flips) + dynamics.send(minis, members);
        members.correct((count & 1) == 1);
        members.passTime();
        flips.clear();
        count++;
        return done;
    }

    /** The nodes and their clocks, each at the index of its number; index 0 is not used. */
    private static final class Nodes {
        private static final int READY = 0;
        private static final int INTEGRATING = 1;
        private static final int ACTIVE = 2;
        private static final int PASSIVE = 3;
        private static final int HALTED = 4;

        private static final int MOST_MIDPOINT = 500;
        private static final int MOST_RATE = 100;

        private final int count;
        private final int[] state;
        private final int[] error;
        private final int[] drift;
        private final int[] rate;
        private final boolean[] cold;
        private final int[] listened;
        private final boolean[] heard;
        private final int[] newMidpoint;
        private final int[] lastMidpoint;
        private final boolean[] activeBefore;
        private final int[] deviations;

        Nodes(int count) {
            this.count = count;
            this.state = new int[count + 1];
            this.error = new int[count + 1];
            this.drift = new int[count + 1];
            this.rate = new int[count + 1];
            this.cold = new boolean[count + 1];
            this.listened = new int[count + 1];
            this.heard = new boolean[count + 1];
            this.newMidpoint = new int[count + 1];
            this.lastMidpoint = new int[count + 1];
            this.activeBefore = new boolean[count + 1];
            this.deviations = new int[count];
        }

        boolean has(int node) {
            return node >= 1 && node <= count;
        }

        boolean isActive(int node) {
            return state[node] == ACTIVE;
        }

        void tellCold(int node, boolean on) {
            cold[node] = on;
            if (on && (state[node] == PASSIVE || state[node] == HALTED)) {
                state[node] = READY;
                error[node] = 0;
                rate[node] = 0;
            }
        }

        int countCold() {
            int found = 0;
            for (int node = 1; node <= count; node++) {
                if (cold[node]) {
                    found++;
                }
            }
            return found;
        }

        boolean areWithin(int bound) {
            for (int one = 1; one <= count; one++) {
                for (int other = one + 1; other <= count; other++) {
                    if (isActive(one) && isActive(other) && distance(one, other) > bound) {
                        return false;
                    }
                }
            }
            return true;
        }

        private long distance(int one, int other) {
            return Math.abs((long) error[one] - (long) error[other]);
        }

        void startUp() {
            int leader = leastActive();
            if (leader != 0) {
                integrate(leader);
            } else if (countStarters() >= 2) {
                startCold();
            }
        }

        private int leastActive() {
            for (int node = 1; node <= count; node++) {
                if (isActive(node)) {
                    return node;
                }
            }
            return 0;
        }

        private void integrate(int leader) {
            for (int node = 1; node <= count; node++) {
                if (state[node] == READY) {
                    state[node] = INTEGRATING;
                    listened[node] = 0;
                } else if (state[node] == INTEGRATING) {
                    listen(node, leader);
                }
            }
        }

        private void listen(int node, int leader) {
            listened[node]++;
            if (listened[node] >= 2) {
                state[node] = ACTIVE;
                error[node] = error[leader];
            }
        }

        private boolean isStarter(int node) {
            return cold[node] && (state[node] == READY || state[node] == INTEGRATING);
        }

        private int countStarters() {
            int found = 0;
            for (int node = 1; node <= count; node++) {
                if (isStarter(node)) {
                    found++;
                }
            }
            return found;
        }

        private void startCold() {
            for (int node = 1; node <= count; node++) {
                if (isStarter(node)) {
                    state[node] = ACTIVE;
                }
            }
        }

        void forgetHeard() {
            for (int node = 1; node <= count; node++) {
                heard[node] = false;
            }
        }

        void correct(boolean odd) {
            // Every midpoint is found before any error moves, as all go by the errors of before.
            for (int node = 1; node <= count; node++) {
                if (isActive(node)) {
                    newMidpoint[node] = findMidpoint(node);
                }
            }
            for (int node = 1; node <= count; node++) {
                if (isActive(node)) {
                    apply(node, newMidpoint[node], odd);
                } else {
                    activeBefore[node] = false;
                }
            }
        }

        private int findMidpoint(int node) {
            deviations[0] = 0;
            int found = 1;
            for (int other = 1; other <= count; other++) {
                if (other != node && isActive(other) && heard[other]) {
                    insertDeviation(found, error[other] - error[node]);
                    found++;
                }
            }
            int dropped = found < 3 ? 0 : found < 8 ? 1 : 2;
            return (deviations[dropped] + deviations[found - 1 - dropped]) / 2;
        }

        private void insertDeviation(int found, int deviation) {
            int at = found;
            while (at > 0 && deviations[at - 1] > deviation) {
                deviations[at] = deviations[at - 1];
                at--;
            }
            deviations[at] = deviation;
        }

        private void apply(int node, int midpoint, boolean odd) {
            int sum = midpoint + (activeBefore[node] ? lastMidpoint[node] : 0);
            lastMidpoint[node] = midpoint;
            activeBefore[node] = true;
            if (midpoint > MOST_MIDPOINT || midpoint < -MOST_MIDPOINT) {
                state[node] = HALTED;
                return;
            }
            error[node] += midpoint;
            if (odd) {
                changeRate(node, sum / 4);
            }
        }

        private void changeRate(int node, int more) {
            int wanted = rate[node] + more;
            rate[node] = Math.max(-MOST_RATE, Math.min(MOST_RATE, wanted));
            if (rate[node] != wanted) {
                state[node] = PASSIVE;
            }
        }

        void passTime() {
            for (int node = 1; node <= count; node++) {
                if (state[node] != HALTED) {
                    error[node] += drift[node] + rate[node];
                }
            }
        }
    }

    /** The static frames in the order in which they were told. */
    private static final class StaticFrames {
        private static final int MOST = 100;
        private static final int MOST_EVERY = 64;

        private final int[] nodes = new int[MOST];
        private final int[] slots = new int[MOST];
        private final int[] channels = new int[MOST];
        private final int[] bases = new int[MOST];
        private final int[] everies = new int[MOST];
        private int size = 0;

        static boolean isEvery(int every) {
            return every >= 1 && every <= MOST_EVERY && Integer.bitCount(every) == 1;
        }

        boolean isFull() {
            return size >= MOST;
        }

        boolean clashes(int slot, int channel, int base, int every) {
            for (int i = 0; i < size; i++) {
                // Of two powers of two the lesser divides the other, so it alone decides.
                int lesser = Math.min(every, everies[i]);
                if (isOn(i, slot, channel) && remainder(base, lesser) == remainder(bases[i], lesser)) {
                    return true;
                }
            }
            return false;
        }

        int add(int node, int slot, int channel, int base, int every) {
            nodes[size] = node;
            slots[size] = slot;
            channels[size] = channel;
            bases[size] = base;
            everies[size] = every;
            size++;
            return size;
        }

        int nodeAt(int slot, int channel, int cycle) {
            for (int i = 0; i < size; i++) {
                if (isOn(i, slot, channel) && isIn(i, cycle)) {
                    return nodes[i];
                }
            }
            return 0;
        }

        int send(int cycle, Nodes members, Flips flips) {
            members.forgetHeard();
            int done = 0;
            // No answer depends on the order of the slots, so the order of telling serves.
            for (int i = 0; i < size; i++) {
                boolean sent = members.isActive(nodes[i]) && isIn(i, cycle);
                if (sent && flips.leavesAny(channels[i], slots[i])) {
                    members.heard[nodes[i]] = true;
                    done++;
                }
            }
            return done;
        }

        private boolean isOn(int i, int slot, int channel) {
            return slots[i] == slot && (channels[i] & channel) != 0;
        }

        private boolean isIn(int i, int cycle) {
            return remainder(cycle, everies[i]) == bases[i];
        }

        /** A mask instead of a division: there is no divisor that could be 0. */
        private static int remainder(int value, int powerOfTwo) {
            return value & (powerOfTwo - 1);
        }
    }

    /** The dynamic frames that wait, in the order in which they were told. */
    private static final class DynamicFrames {
        private static final int MOST = 100;
        private static final int MOST_IDENTITY = 60;
        private static final int NONE = -1;

        private final int[] nodes = new int[MOST];
        private final int[] identities = new int[MOST];
        private final int[] lengths = new int[MOST];
        private int size = 0;

        boolean isFull() {
            return size >= MOST;
        }

        int add(int node, int identity, int length) {
            nodes[size] = node;
            identities[size] = identity;
            lengths[size] = length;
            size++;
            return size;
        }

        int send(int minis, Nodes members) {
            int done = 0;
            int mini = 1;
            for (int identity = 1; identity <= MOST_IDENTITY && mini <= minis; identity++) {
                int at = firstOf(identity, members);
                if (at != NONE && mini + lengths[at] - 1 <= minis) {
                    mini += lengths[at];
                    remove(at);
                    done++;
                } else {
                    mini++;
                }
            }
            return done;
        }

        private int firstOf(int identity, Nodes members) {
            for (int i = 0; i < size; i++) {
                if (identities[i] == identity && members.isActive(nodes[i])) {
                    return i;
                }
            }
            return NONE;
        }

        private void remove(int at) {
            size--;
            for (int i = at; i < size; i++) {
                nodes[i] = nodes[i + 1];
                identities[i] = identities[i + 1];
                lengths[i] = lengths[i + 1];
            }
        }
    }

    /** The flips of the next cycle: for each slot a mask of channels, as a frame has one. */
    private static final class Flips {
        private final int[] channels;
        private int size;

        Flips(int slots) {
            this.channels = new int[slots];
            this.size = 0;
        }

        boolean has(int channel, int slot) {
            return (channels[slot] & channel) != 0;
        }

        int add(int channel, int slot) {
            channels[slot] |= channel;
            size++;
            return size;
        }

        boolean leavesAny(int sent, int slot) {
            return (sent & ~channels[slot]) != 0;
        }

        void clear() {
            for (int slot = 0; slot < channels.length; slot++) {
                channels[slot] = 0;
            }
            size = 0;
        }
    }
}

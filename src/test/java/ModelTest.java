/** All promises: long runs of mixed calls, each answer held against the Model's. */
public final class ModelTest {
    private static final Check check = new Check();
    private static final int[] WILD = {
        Integer.MIN_VALUE, Integer.MAX_VALUE, -1000, -501, -64, -1, 0, 61, 65, 501, 1000
    };
    private static final int[] EVERY = {1, 2, 4, 8, 16, 32, 64, 64, 64, 3};
    private static final int[] reached = new int[5];

    private final long seed;
    private final FlexCycles x;
    private final Model y;
    private final int nodes;
    private final int slots;
    private final int greatestDrift;
    private final int mostCycles;
    private long random;

    private ModelTest(long seed) {
        this.seed = seed;
        this.random = seed * 7919 + 12345;
        int n = pick(0, 17);
        int s = pick(0, 61);
        int m = pick(-1, 61);
        this.x = new FlexCycles(n, s, m);
        this.y = new Model(n, s, m);
        this.nodes = n < 1 || n > 16 ? 4 : n;
        this.slots = s < 1 || s > 60 ? 10 : s;
        this.greatestDrift = pick(0, 3) == 0 ? 200 : pick(1, 60);
        this.mostCycles = pick(0, 9) == 0 ? 500 : 4;
    }

    public static void main(String[] args) {
        for (long seed = 1; seed <= 300; seed++) {
            new ModelTest(seed).calls();
        }
        for (int state = 0; state < reached.length; state++) {
            check.due("state " + state + " was reached", reached[state] > 100, true);
        }
        check.end();
    }

    /** A fixed row of numbers that look mixed: the same in every run of this test. */
    private int pick(int least, int most) {
        random = random * 6364136223846793005L + 1442695040888963407L;
        return least + (int) Long.remainderUnsigned(random >>> 33, (long) most - least + 1);
    }

    private int oftenIn(int least, int most) {
        int way = pick(0, 39);
        if (way == 0) {
            return WILD[pick(0, WILD.length - 1)];
        }
        return way == 1 ? least - 1 : way == 2 ? most + 1 : pick(least, most);
    }

    private void calls() {
        for (int i = 0; i < 512; i++) {
            call("seed " + seed + ", call " + i + ": ");
        }
    }

    private void call(String at) {
        int node = oftenIn(1, nodes);
        switch (pick(0, 15)) {
            case 0, 1 -> frame(at, node);
            case 2, 3 -> dynamic(at, node);
            case 4 -> drift(at, node);
            case 5, 6, 7 -> run(at);
            case 8 -> place(at);
            case 9, 10 -> cold(at, node);
            case 11, 12 -> flip(at);
            case 13 -> close(at);
            default -> look(at, node);
        }
    }

    private void frame(String at, int node) {
        int slot = oftenIn(0, slots - 1);
        int channel = oftenIn(1, 3);
        int every = EVERY[pick(0, EVERY.length - 1)];
        int base = oftenIn(0, every - 1);
        String call = "frame(" + node + ", " + slot + ", " + channel + ", " + base + ", " + every + ")";
        check.due(at + call, x.frame(node, slot, channel, base, every),
                y.frame(node, slot, channel, base, every));
    }

    private void dynamic(String at, int node) {
        int identity = oftenIn(1, pick(0, 1) == 0 ? 60 : 8);
        int length = oftenIn(1, pick(0, 1) == 0 ? 60 : 8);
        String call = "dynamic(" + node + ", " + identity + ", " + length + ")";
        check.due(at + call, x.dynamic(node, identity, length), y.dynamic(node, identity, length));
    }

    private void drift(String at, int node) {
        int parts = oftenIn(-greatestDrift, greatestDrift);
        check.due(at + "drift(" + node + ", " + parts + ")", x.drift(node, parts), y.drift(node, parts));
    }

    private void run(String at) {
        int cycles = oftenIn(0, mostCycles);
        check.due(at + "run(" + cycles + ")", x.run(cycles), y.run(cycles));
        for (int node = 1; node <= nodes; node++) {
            compare(at, node);
            reached[x.state(node)]++;
        }
    }

    private void place(String at) {
        int slot = oftenIn(0, slots - 1);
        int cycle = oftenIn(0, 63);
        int due = y.place(slot, cycle);
        if (due == Model.THROWN) {
            check.placeThrows(x, slot, cycle);
        } else {
            check.due(at + "place(" + slot + ", " + cycle + ")", x.place(slot, cycle), due);
        }
    }

    private void cold(String at, int node) {
        boolean on = pick(0, 3) != 0;
        check.due(at + "cold(" + node + ", " + on + ")", x.cold(node, on), y.cold(node, on));
    }

    private void flip(String at) {
        int channel = oftenIn(1, 2);
        int slot = oftenIn(0, slots - 1);
        check.due(at + "flip(" + channel + ", " + slot + ")", x.flip(channel, slot), y.flip(channel, slot));
    }

    private void close(String at) {
        int bound = oftenIn(-2, 300);
        check.due(at + "close(" + bound + ")", x.close(bound), y.close(bound));
    }

    private void look(String at, int node) {
        compare(at, node);
    }

    private void compare(String at, int node) {
        check.due(at + "state(" + node + ")", x.state(node), y.state(node));
        check.due(at + "offset(" + node + ")", x.offset(node), y.offset(node));
        check.due(at + "rate(" + node + ")", x.rate(node), y.rate(node));
        check.due(at + "midpoint(" + node + ")", x.midpoint(node), y.midpoint(node));
    }
}

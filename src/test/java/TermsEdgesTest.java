/** The section Terms and the promises' ranges: each number's least and greatest, and one beyond. */
public final class TermsEdgesTest {
    private static final int LEAST = Integer.MIN_VALUE;
    private static final int MOST = Integer.MAX_VALUE;
    private static final Check check = new Check();

    public static void main(String[] args) {
        check.edge("nodes 1 .. 16, 4 for any other number", TermsEdgesTest::nodes);
        check.edge("SLOTS 1 .. 60, 10 for any other number", TermsEdgesTest::slots);
        check.edge("MINIS 0 .. 60, 20 for any other number", TermsEdgesTest::minis);
        check.edge("each of the three by itself", TermsEdgesTest::eachByItself);
        check.edge("NODES are numbered from 1 on", TermsEdgesTest::numbersOfNodes);
        check.edge("SLOTS are numbered from 0 on", TermsEdgesTest::numbersOfSlots);
        check.edge("CYCLES are counted from 0 on", TermsEdgesTest::countOfCycles);
        check.edge("the first cycle is even", TermsEdgesTest::firstCycleIsEven);
        check.edge("a frame's channel is 1 .. 3", TermsEdgesTest::channelsOfFrames);
        check.edge("EVERY is 1, 2, 4, 8, 16, 32 or 64", TermsEdgesTest::everies);
        check.edge("BASE is 0 .. EVERY - 1", TermsEdgesTest::bases);
        check.edge("identities are 1 .. 60", TermsEdgesTest::identities);
        check.edge("lengths are 1 .. 60", TermsEdgesTest::lengths);
        check.edge("a DRIFT is -200 .. 200", TermsEdgesTest::drifts);
        check.edge("cycles are 0 .. 500", TermsEdgesTest::cycles);
        check.edge("a FLIP's channel is 1 or 2", TermsEdgesTest::channelsOfFlips);
        check.edge("place's cycle is 0 .. 63", TermsEdgesTest::placeCycles);
        check.edge("at most 100 STATIC FRAMES", TermsEdgesTest::staticFrames);
        check.edge("at most 100 DYNAMIC FRAMES that wait", TermsEdgesTest::dynamicFrames);
        check.edge("a node is READY at first, and not COLD", TermsEdgesTest::atFirst);
        check.edge("ERROR, DRIFT and RATE are at first 0", TermsEdgesTest::zeroAtFirst);
        check.edge("at most 512 calls", TermsEdgesTest::longUse);
        check.end();
    }

    private static void nodes() {
        int[] told = {1, 2, 15, 16, 0, 17, -1, 4, LEAST, MOST};
        int[] due = {1, 2, 15, 16, 4, 4, 4, 4, 4, 4};
        for (int i = 0; i < told.length; i++) {
            FlexCycles x = new FlexCycles(told[i], 1, 0);
            check.due(told[i] + " nodes, the last", x.state(due[i]), 0);
            check.due(told[i] + " nodes, one more", x.state(due[i] + 1), -1);
        }
    }

    private static void slots() {
        int[] told = {1, 2, 59, 60, 0, 61, -1, 10, LEAST, MOST};
        int[] due = {1, 2, 59, 60, 10, 10, 10, 10, 10, 10};
        for (int i = 0; i < told.length; i++) {
            FlexCycles x = new FlexCycles(1, told[i], 0);
            check.due(told[i] + " SLOTS, the last", x.place(due[i] - 1, 0), 0);
            check.placeThrows(x, due[i], 0);
        }
    }

    private static void minis() {
        int[] told = {0, 1, 2, 59, 60, -1, 61, 20, LEAST, MOST};
        int[] due = {0, 1, 2, 59, 60, 20, 20, 20, 20, 20};
        for (int i = 0; i < told.length; i++) {
            check.due(told[i] + " MINIS", minisOf(new FlexCycles(2, 1, told[i])), due[i]);
        }
    }

    /** As many frames of LENGTH 1 as there are MINIS are DONE in one cycle, and no more. */
    private static int minisOf(FlexCycles x) {
        x.cold(1, true);
        x.cold(2, true);
        for (int identity = 1; identity <= 60; identity++) {
            x.dynamic(1, identity, 1);
        }
        int done = x.run(1);
        if (done < 60) {
            return done;
        }
        x.dynamic(1, 1, 60);
        x.dynamic(1, 2, 1);
        return x.run(1) == 1 ? 60 : 61;
    }

    private static void eachByItself() {
        sizes(new FlexCycles(0, 3, 7), 4, 3, 7);
        sizes(new FlexCycles(3, 0, 7), 3, 10, 7);
        sizes(new FlexCycles(3, 5, -1), 3, 5, 20);
        sizes(new FlexCycles(17, 61, 61), 4, 10, 20);
        sizes(new FlexCycles(16, 60, 60), 16, 60, 60);
        sizes(new FlexCycles(2, 1, 0), 2, 1, 0);
    }

    private static void sizes(FlexCycles x, int nodes, int slots, int minis) {
        check.due("the last node", x.state(nodes), 0);
        check.due("one more", x.state(nodes + 1), -1);
        check.due("the last SLOT", x.place(slots - 1, 0), 0);
        check.placeThrows(x, slots, 0);
        check.due("MINIS", minisOf(x), minis);
    }

    private static void numbersOfNodes() {
        int[] none = {0, 17, -1, LEAST, MOST};
        FlexCycles x = new FlexCycles(16, 2, 1);
        for (int node : none) {
            check.due("frame(" + node + ", ..)", x.frame(node, 0, 1, 0, 1), -1);
            check.due("dynamic(" + node + ", ..)", x.dynamic(node, 1, 1), -1);
            check.due("drift(" + node + ", 1)", x.drift(node, 1), -1);
            check.due("state(" + node + ")", x.state(node), -1);
            check.due("offset(" + node + ")", x.offset(node), 0);
            check.due("rate(" + node + ")", x.rate(node), 0);
            check.due("midpoint(" + node + ")", x.midpoint(node), 0);
            check.due("cold(" + node + ", true)", x.cold(node, true), -1);
            check.due("cold(" + node + ", false)", x.cold(node, false), -1);
        }
        int told = 0;
        for (int node = 1; node <= 16; node += 15) {
            told++;
            check.due("frame(" + node + ", ..)", x.frame(node, told - 1, 1, 0, 1), told);
            check.due("dynamic(" + node + ", ..)", x.dynamic(node, 1, 1), told);
            check.due("drift(" + node + ", 8)", x.drift(node, 8), 1);
            check.due("state(" + node + ")", x.state(node), 0);
            check.due("cold(" + node + ", true)", x.cold(node, true), told);
        }
        check.due("run(1)", x.run(1), 3);
        check.due("offset(1)", x.offset(1), 8);
        check.due("offset(16)", x.offset(16), 8);
    }

    private static void numbersOfSlots() {
        int[] none = {-1, 5, LEAST, MOST};
        FlexCycles x = new FlexCycles(1, 5, 0);
        for (int slot : none) {
            check.due("frame in " + slot, x.frame(1, slot, 1, 0, 1), -1);
            check.due("flip at " + slot, x.flip(1, slot), -1);
            check.placeThrows(x, slot, 0);
        }
        check.due("frame in 0", x.frame(1, 0, 1, 0, 1), 1);
        check.due("frame in 4", x.frame(1, 4, 1, 0, 1), 2);
        check.due("flip at 0", x.flip(1, 0), 1);
        check.due("flip at 4", x.flip(1, 4), 2);
        check.due("place in 0", x.place(0, 0), 1);
        check.due("place in 4", x.place(4, 0), 1);
    }

    private static void countOfCycles() {
        FlexCycles x = new FlexCycles(2, 1, 0);
        Setups.allCold(x, 2);
        x.frame(1, 0, 1, 0, 64);
        check.due("the first", x.run(1), 1);
        check.due("the next 63", x.run(63), 0);
        check.due("one more", x.run(1), 1);
    }

    /** MIDPOINTS are 0 in the first cycle, so the second and third tell which are odd. */
    private static void firstCycleIsEven() {
        FlexCycles x = new FlexCycles(2, 2, 0);
        Setups.allSend(x, 2);
        Setups.allCold(x, 2);
        x.drift(1, 80);
        x.run(1);
        x.drift(1, 0);
        x.run(1);
        check.midpoints(x, -40, 40);
        check.rates(x, -10, 10);
        x.run(1);
        check.midpoints(x, 10, -10);
        check.rates(x, -10, 10);
    }

    private static void channelsOfFrames() {
        FlexCycles x = new FlexCycles(1, 9, 0);
        int[] wrong = {0, 4, -1, LEAST, MOST};
        for (int channel : wrong) {
            check.due("channel " + channel, x.frame(1, 0, channel, 0, 1), -2);
        }
        check.due("channel 1", x.frame(1, 1, 1, 0, 1), 1);
        check.due("channel 2", x.frame(1, 2, 2, 0, 1), 2);
        check.due("channel 3", x.frame(1, 3, 3, 0, 1), 3);
    }

    private static void everies() {
        FlexCycles x = new FlexCycles(1, 60, 0);
        int[] right = {1, 2, 4, 8, 16, 32, 64};
        for (int i = 0; i < right.length; i++) {
            check.due("EVERY " + right[i], x.frame(1, i, 1, 0, right[i]), i + 1);
        }
        int[] wrong = {0, 3, 5, 6, 7, 9, 12, 15, 17, 24, 31, 33, 48, 63, 65, 96, 127, 128, 256,
            1 << 16, 1 << 30, -1, -2, -64, LEAST, MOST};
        for (int every : wrong) {
            check.due("EVERY " + every, x.frame(1, 50, 1, 0, every), -2);
        }
    }

    private static void bases() {
        int told = 0;
        for (int every = 1; every <= 64; every *= 2) {
            FlexCycles x = new FlexCycles(1, 60, 0);
            check.due("BASE -1 of " + every, x.frame(1, 0, 1, -1, every), -2);
            check.due("BASE EVERY of " + every, x.frame(1, 0, 1, every, every), -2);
            check.due("the least BASE of " + every, x.frame(1, 0, 1, LEAST, every), -2);
            check.due("the greatest BASE of " + every, x.frame(1, 0, 1, MOST, every), -2);
            check.due("BASE 0 of " + every, x.frame(1, 0, 1, 0, every), 1);
            check.due("BASE EVERY - 1 of " + every, x.frame(1, 1, 1, every - 1, every), 2);
            told++;
        }
        check.due("seven of EVERY", told, 7);
    }

    private static void identities() {
        FlexCycles x = new FlexCycles(1, 1, 1);
        int[] wrong = {0, 61, -1, LEAST, MOST};
        for (int identity : wrong) {
            check.due("identity " + identity, x.dynamic(1, identity, 1), -2);
        }
        check.due("identity 1", x.dynamic(1, 1, 1), 1);
        check.due("identity 60", x.dynamic(1, 60, 1), 2);
    }

    private static void lengths() {
        FlexCycles x = new FlexCycles(1, 1, 1);
        int[] wrong = {0, 61, -1, LEAST, MOST};
        for (int length : wrong) {
            check.due("length " + length, x.dynamic(1, 1, length), -2);
        }
        check.due("length 1", x.dynamic(1, 1, 1), 1);
        check.due("length 60, more than there are MINIS", x.dynamic(1, 1, 60), 2);
    }

    private static void drifts() {
        FlexCycles x = new FlexCycles(1, 1, 1);
        int[] wrong = {201, -201, LEAST, MOST};
        for (int parts : wrong) {
            check.due("drift(1, " + parts + ")", x.drift(1, parts), -2);
        }
        int[] right = {-200, -199, -1, 0, 1, 199, 200};
        for (int parts : right) {
            int before = x.offset(1);
            check.due("drift(1, " + parts + ")", x.drift(1, parts), 1);
            x.run(1);
            check.due("offset(1)", x.offset(1), before + parts);
        }
    }

    private static void cycles() {
        FlexCycles x = new FlexCycles(1, 1, 1);
        x.drift(1, 1);
        int[] wrong = {-1, 501, LEAST, MOST};
        for (int cycles : wrong) {
            check.due("run(" + cycles + ")", x.run(cycles), -2);
            check.due("offset(1)", x.offset(1), 0);
        }
        check.due("run(0)", x.run(0), 0);
        check.due("offset(1)", x.offset(1), 0);
        check.due("run(1)", x.run(1), 0);
        check.due("offset(1)", x.offset(1), 1);
        check.due("run(500)", x.run(500), 0);
        check.due("offset(1)", x.offset(1), 501);
    }

    private static void channelsOfFlips() {
        FlexCycles x = new FlexCycles(1, 1, 1);
        int[] wrong = {0, 3, -1, LEAST, MOST};
        for (int channel : wrong) {
            check.due("channel " + channel, x.flip(channel, 0), -1);
        }
        check.due("channel 1", x.flip(1, 0), 1);
        check.due("channel 2", x.flip(2, 0), 2);
        check.due("channel 1 again", x.flip(1, 0), -3);
        check.due("channel 2 again", x.flip(2, 0), -3);
        check.due("channel 3 of two FLIPS", x.flip(3, 0), -1);
    }

    private static void placeCycles() {
        FlexCycles x = new FlexCycles(3, 1, 1);
        x.frame(2, 0, 1, 0, 64);
        x.frame(3, 0, 2, 63, 64);
        int[] wrong = {-1, 64, 127, LEAST, MOST};
        for (int cycle : wrong) {
            check.placeThrows(x, 0, cycle);
        }
        check.due("place(0, 0)", x.place(0, 0), 2);
        check.due("place(0, 1)", x.place(0, 1), 0);
        check.due("place(0, 62)", x.place(0, 62), 0);
        check.due("place(0, 63)", x.place(0, 63), 3);
    }

    private static void staticFrames() {
        FlexCycles x = new FlexCycles(16, 60, 0);
        for (int i = 0; i < 99; i++) {
            x.frame(1 + i % 16, i / 2, 1 + i % 2, 0, 1);
        }
        check.due("the 100th", x.frame(1, 59, 1, 0, 64), 100);
        check.due("the 101st", x.frame(1, 58, 1, 0, 64), -4);
        x.run(500);
        check.due("there is never room again", x.frame(1, 58, 1, 0, 64), -4);
        check.due("the 100th stands", x.place(59, 0), 1);
        check.due("the 101st does not", x.place(58, 0), 0);
    }

    private static void dynamicFrames() {
        FlexCycles x = Setups.started(2, 1, 60);
        for (int i = 0; i < 99; i++) {
            x.dynamic(1, 1 + i % 60, 60);
        }
        check.due("the 100th", x.dynamic(1, 60, 60), 100);
        check.due("the 101st", x.dynamic(1, 60, 60), -4);
        check.due("one is DONE", x.run(1), 1);
        check.due("there is room for one", x.dynamic(1, 60, 60), 100);
        check.due("and no more", x.dynamic(1, 60, 60), -4);
    }

    private static void atFirst() {
        FlexCycles x = new FlexCycles(16, 1, 0);
        for (int node = 1; node <= 16; node++) {
            check.due("state(" + node + ")", x.state(node), Setups.READY);
            check.due("cold(" + node + ", false)", x.cold(node, false), 0);
        }
    }

    private static void zeroAtFirst() {
        FlexCycles x = new FlexCycles(16, 1, 0);
        for (int node = 1; node <= 16; node++) {
            check.due("offset(" + node + ")", x.offset(node), 0);
            check.due("rate(" + node + ")", x.rate(node), 0);
            check.due("midpoint(" + node + ")", x.midpoint(node), 0);
        }
        x.run(500);
        for (int node = 1; node <= 16; node++) {
            check.due("offset(" + node + ") without DRIFT", x.offset(node), 0);
        }
    }

    /** All 512 calls; 507 of them run 500 cycles each. */
    private static void longUse() {
        FlexCycles x = new FlexCycles(2, 1, 0);
        x.frame(1, 0, 1, 0, 64);
        x.drift(1, 200);
        x.drift(2, -200);
        for (int i = 0; i < 507; i++) {
            x.run(500);
        }
        check.due("offset(1)", x.offset(1), 200 * 500 * 507);
        check.due("offset(2)", x.offset(2), -200 * 500 * 507);

        FlexCycles y = Setups.started(2, 1, 0);
        y.frame(1, 0, 1, 63, 64);
        long done = 0;
        for (int i = 0; i < 508; i++) {
            done += y.run(500);
        }
        check.due("DONE in cycles 1 to 254000", done, 254001 / 64);
    }
}

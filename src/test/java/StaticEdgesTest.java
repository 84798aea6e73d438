/** Step 2 of a CYCLE: the boundary cases of STATIC FRAMES and of FLIPS. */
public final class StaticEdgesTest {
    private static final Check check = new Check();

    public static void main(String[] args) {
        check.edge("a READY node's is not DONE", StaticEdgesTest::ofReady);
        check.edge("an INTEGRATING node's is not DONE", StaticEdgesTest::ofIntegrating);
        check.edge("a PASSIVE node's is not DONE", StaticEdgesTest::ofPassive);
        check.edge("a HALTED node's is not DONE", StaticEdgesTest::ofHalted);
        check.edge("the first and the last SLOT", StaticEdgesTest::firstAndLastSlot);
        check.edge("an object of one SLOT", StaticEdgesTest::oneSlot);
        check.edge("EVERY 1: in all cycles", StaticEdgesTest::everyOne);
        check.edge("EVERY 2: in even or odd cycles", StaticEdgesTest::everyTwo);
        check.edge("EVERY 64: BASE 0, BASE 63, and around", StaticEdgesTest::everySixtyFour);
        check.edge("on both channels it counts once", StaticEdgesTest::countsOnce);
        check.edge("a FLIP on its one channel", StaticEdgesTest::flipOnItsChannel);
        check.edge("a FLIP on the channel that it is not on", StaticEdgesTest::flipOnTheOther);
        check.edge("a FLIP on one of its two channels", StaticEdgesTest::flipOnOneOfTwo);
        check.edge("FLIPS on both of its channels", StaticEdgesTest::flipsOnBoth);
        check.edge("a FLIP at the SLOT before or behind", StaticEdgesTest::flipBeside);
        check.edge("a FLIP hits one of two frames in a SLOT", StaticEdgesTest::oneOfTwoFrames);
        check.edge("FLIPS at all SLOTS on all channels", StaticEdgesTest::allFlips);
        check.edge("100 frames in a cycle", StaticEdgesTest::hundred);
        check.end();
    }

    private static void ofReady() {
        FlexCycles x = Setups.at(0, 0, 0);
        x.cold(2, false);
        check.due("run(3)", x.run(3), 0);
    }

    private static void ofIntegrating() {
        FlexCycles x = Setups.at(0, 0, 0, 0);
        x.cold(3, false);
        x.run(1);
        check.due("run(1)", x.run(1), 2);
        check.due("state(3)", x.state(3), Setups.INTEGRATING);
    }

    private static void ofPassive() {
        FlexCycles x = Setups.apart(808, 7);
        check.due("in the cycle in which they become it", x.run(1), 2);
        check.states(x, 3, 3);
        check.due("run(3)", x.run(3), 0);
    }

    private static void ofHalted() {
        FlexCycles x = Setups.apart(1002, 6);
        check.due("in the cycle in which they become it", x.run(1), 2);
        check.states(x, 4, 4);
        check.due("run(3)", x.run(3), 0);
    }

    private static void firstAndLastSlot() {
        FlexCycles x = Setups.started(2, 60, 0);
        check.due("the first", x.frame(1, 0, 1, 0, 1), 1);
        check.due("run(1)", x.run(1), 1);
        check.due("the last", x.frame(2, 59, 1, 0, 1), 2);
        check.due("run(1)", x.run(1), 2);
        x.flip(1, 0);
        check.due("without the first", x.run(1), 1);
        x.flip(1, 59);
        check.due("without the last", x.run(1), 1);
    }

    private static void oneSlot() {
        FlexCycles x = Setups.started(2, 1, 0);
        x.frame(1, 0, 1, 0, 1);
        x.frame(2, 0, 2, 0, 1);
        check.due("run(1)", x.run(1), 2);
    }

    private static void everyOne() {
        FlexCycles x = Setups.started(2, 1, 0);
        x.frame(1, 0, 1, 0, 1);
        check.due("run(500)", x.run(500), 500);
    }

    private static void everyTwo() {
        FlexCycles even = Setups.started(2, 1, 0);
        even.frame(1, 0, 1, 0, 2);
        check.due("0 of 2 in cycle 1", even.run(1), 0);
        check.due("0 of 2 in cycle 2", even.run(1), 1);
        check.due("0 of 2 in cycle 3", even.run(1), 0);
        FlexCycles odd = Setups.started(2, 1, 0);
        odd.frame(1, 0, 1, 1, 2);
        check.due("1 of 2 in cycle 1", odd.run(1), 1);
        check.due("1 of 2 in cycle 2", odd.run(1), 0);
        check.due("1 of 2 in cycle 3", odd.run(1), 1);
    }

    private static void everySixtyFour() {
        FlexCycles x = new FlexCycles(2, 1, 0);
        Setups.allCold(x, 2);
        x.frame(1, 0, 1, 0, 64);
        x.frame(2, 0, 2, 63, 64);
        check.due("cycle 0", x.run(1), 1);
        check.due("cycles 1 to 62", x.run(62), 0);
        x.flip(1, 0);
        check.due("cycle 63, that of BASE 63", x.run(1), 1);
        x.flip(2, 0);
        check.due("cycle 64, that of BASE 0", x.run(1), 1);
        check.due("cycles 65 to 126", x.run(62), 0);
        check.due("cycles 127 and 128", x.run(2), 2);
        check.due("cycle 129", x.run(1), 0);
    }

    private static void countsOnce() {
        FlexCycles x = Setups.started(2, 1, 0);
        x.frame(1, 0, 3, 0, 1);
        check.due("run(1)", x.run(1), 1);
    }

    private static void flipOnItsChannel() {
        FlexCycles x = Setups.started(2, 2, 0);
        x.frame(1, 0, 1, 0, 1);
        x.flip(1, 0);
        check.due("channel 1", x.run(1), 0);
        FlexCycles y = Setups.started(2, 2, 0);
        y.frame(1, 0, 2, 0, 1);
        y.flip(2, 0);
        check.due("channel 2", y.run(1), 0);
    }

    private static void flipOnTheOther() {
        FlexCycles x = Setups.started(2, 2, 0);
        x.frame(1, 0, 1, 0, 1);
        x.flip(2, 0);
        check.due("channel 1", x.run(1), 1);
        FlexCycles y = Setups.started(2, 2, 0);
        y.frame(1, 0, 2, 0, 1);
        y.flip(1, 0);
        check.due("channel 2", y.run(1), 1);
    }

    private static void flipOnOneOfTwo() {
        for (int channel = 1; channel <= 2; channel++) {
            FlexCycles x = Setups.at(2, 0, 100);
            x.flip(channel, 1);
            check.due("it counts", x.run(1), 2);
            check.due("and is heard", x.midpoint(1), 50);
        }
    }

    private static void flipsOnBoth() {
        FlexCycles x = Setups.at(2, 0, 100);
        Setups.silence(x, 1);
        check.due("it does not count", x.run(1), 1);
        check.midpoints(x, 0, -50);
    }

    private static void flipBeside() {
        FlexCycles x = Setups.started(2, 3, 0);
        x.frame(1, 1, 3, 0, 1);
        Setups.silence(x, 0);
        Setups.silence(x, 2);
        check.due("run(1)", x.run(1), 1);
    }

    private static void oneOfTwoFrames() {
        FlexCycles x = new FlexCycles(2, 1, 0);
        x.frame(1, 0, 1, 0, 1);
        x.frame(2, 0, 2, 0, 1);
        x.drift(2, 100);
        Setups.allCold(x, 2);
        x.run(1);
        x.flip(1, 0);
        check.due("run(1)", x.run(1), 1);
        check.midpoints(x, 50, 0);
    }

    private static void allFlips() {
        FlexCycles x = new FlexCycles(2, 60, 0);
        Setups.allCold(x, 2);
        for (int slot = 0; slot < 60; slot++) {
            x.frame(1 + slot % 2, slot, 1 + slot % 3, 0, 1);
            check.due("the first", x.flip(1, slot), 2 * slot + 1);
            check.due("the second", x.flip(2, slot), 2 * slot + 2);
        }
        check.due("run(1)", x.run(1), 0);
        check.due("the next cycle", x.run(1), 60);
    }

    private static void hundred() {
        FlexCycles x = new FlexCycles(2, 60, 0);
        Setups.allCold(x, 2);
        for (int i = 0; i < 100; i++) {
            check.due("its number", x.frame(1 + i % 2, i / 2, 1 + i % 2, 0, 1), i + 1);
        }
        check.due("run(1)", x.run(1), 100);
        check.due("run(499)", x.run(499), 49900);
    }
}

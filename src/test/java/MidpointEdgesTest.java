/** Step 4 of a CYCLE: the boundary cases of deviations and of the MIDPOINT. */
public final class MidpointEdgesTest {
    private static final Check check = new Check();

    public static void main(String[] args) {
        check.edge("n is 1: its own 0", MidpointEdgesTest::one);
        check.edge("n is 2: none is dropped", MidpointEdgesTest::two);
        check.edge("n is 3: one is dropped at each end", MidpointEdgesTest::three);
        check.edge("n is 4: one is dropped at each end", MidpointEdgesTest::four);
        check.edge("n is 7: one is dropped at each end", MidpointEdgesTest::seven);
        check.edge("n is 8: two are dropped at each end", MidpointEdgesTest::eight);
        check.edge("n is 9: two are dropped at each end", MidpointEdgesTest::nine);
        check.edge("n is 16: two are dropped at each end", MidpointEdgesTest::sixteen);
        check.edge("n of the heard ones: 2, beside 3", MidpointEdgesTest::twoBesideThree);
        check.edge("n of the heard ones: 7, beside 8", MidpointEdgesTest::sevenBesideEight);
        check.edge("the same ones are dropped one by one", MidpointEdgesTest::sameOnes);
        check.edge("half of the sum, towards 0", MidpointEdgesTest::towardsZero);
        check.edge("by the ERRORS of before", MidpointEdgesTest::errorsOfBefore);
        check.edge("by those ACTIVE before, one that halts too", MidpointEdgesTest::haltingOneCounts);
        check.edge("two frames of a node count as one", MidpointEdgesTest::twoFramesOfANode);
        check.edge("one of a node's two frames is enough", MidpointEdgesTest::oneOfTwoFrames);
        check.edge("DONE in this cycle, not in the one before", MidpointEdgesTest::inThisCycle);
        check.edge("one that sends nothing hears the others", MidpointEdgesTest::silentOneHears);
        check.edge("a DYNAMIC FRAME does not count", MidpointEdgesTest::dynamicFrame);
        check.edge("a READY node has none", MidpointEdgesTest::ofReady);
        check.edge("an INTEGRATING node has none", MidpointEdgesTest::ofIntegrating);
        check.edge("a PASSIVE node has no new one", MidpointEdgesTest::ofPassive);
        check.edge("a HALTED node has no new one", MidpointEdgesTest::ofHalted);
        check.edge("a node that is READY again has no new one", MidpointEdgesTest::ofReadyAgain);
        check.end();
    }

    /** The MIDPOINTS that nodes with these ERRORS have in their first ACTIVE cycle. */
    private static FlexCycles ran(int... errors) {
        FlexCycles x = Setups.at(4, errors);
        x.run(1);
        return x;
    }

    private static void one() {
        FlexCycles x = Setups.at(4, 300, 0);
        Setups.silence(x, 0);
        Setups.silence(x, 1);
        x.run(1);
        check.midpoints(x, 0, 0);
        check.offsets(x, 300, 0);
    }

    private static void two() {
        check.midpoints(ran(0, 100), 50, -50);
    }

    private static void three() {
        check.midpoints(ran(0, 10, 100), 10, 0, -90);
    }

    /** Sorted 0, 11, 50, 100: half of 11 and 50, towards 0. */
    private static void four() {
        check.midpoints(ran(0, 100, 50, 11), 30, -69, -19, 19);
    }

    /** Sorted 0, 1, 20, 30, 40, 90, 100: half of 1 and 90. */
    private static void seven() {
        check.midpoints(ran(0, 90, 1, 40, 20, 100, 30), 45, -44, 44, 5, 25, -54, 15);
    }

    /** Sorted 0, 1, 20, 30, 40, 50, 150, 200: half of 20 and 50. */
    private static void eight() {
        check.midpoints(ran(0, 150, 1, 40, 20, 200, 30, 50), 35, -115, 34, -5, 15, -165, 5, -15);
    }

    /** Sorted -200, -150, 0, 2, 4, 6, 8, 100, 200: half of 0 and 8. */
    private static void nine() {
        check.midpoints(ran(0, 200, 8, 2, -150, 4, 6, -200, 100), 4, -196, -4, 2, 154);
    }

    /** Sorted 0 to 12, 23, 100, 200: half of 2 and 23, towards 0. */
    private static void sixteen() {
        FlexCycles x = ran(0, 200, 2, 1, 12, 11, 10, 9, 8, 7, 6, 5, 4, 3, 100, 23);
        check.due("midpoint(1)", x.midpoint(1), 12);
        check.due("midpoint(2)", x.midpoint(2), -187);
        check.due("midpoint(16)", x.midpoint(16), -10);
    }

    private static void twoBesideThree() {
        FlexCycles x = Setups.at(4, 0, 100, 10);
        Setups.silence(x, 2);
        x.run(1);
        check.midpoints(x, 50, -50, 0);
    }

    private static void sevenBesideEight() {
        FlexCycles x = Setups.at(4, 0, 90, 1, 40, 20, 100, 30, 50);
        Setups.silence(x, 7);
        x.run(1);
        check.due("midpoint(1), of 7", x.midpoint(1), 45);
        check.due("midpoint(8), of 8", x.midpoint(8), -15);
    }

    private static void sameOnes() {
        check.midpoints(ran(0, 9, 9), 9, 0, 0);
        check.midpoints(ran(0, 0, 80, 80), 40, 40, -40, -40);
        check.midpoints(ran(0, 0, 0, 60, 60, 60, 60, 60), 30, 30, 30, -30);
    }

    private static void towardsZero() {
        check.midpoints(ran(1, 0), 0, 0);
        check.midpoints(ran(2, 0), -1, 1);
        check.midpoints(ran(3, 0), -1, 1);
        check.midpoints(ran(15, 0), -7, 7);
    }

    private static void errorsOfBefore() {
        FlexCycles x = ran(100, 0, 40);
        check.midpoints(x, -60, 40, 0);
        check.offsets(x, 40, 40, 40);
    }

    private static void haltingOneCounts() {
        FlexCycles x = Setups.at(6, 1002, 0);
        x.run(1);
        check.midpoints(x, -501, 501);
        check.states(x, 4, 4);
    }

    private static void twoFramesOfANode() {
        FlexCycles x = Setups.at(4, 0, 100);
        x.frame(2, 10, 3, 0, 1);
        x.run(1);
        check.midpoints(x, 50, -50);
    }

    private static void oneOfTwoFrames() {
        FlexCycles first = Setups.at(4, 0, 100);
        first.frame(2, 10, 3, 0, 1);
        Setups.silence(first, 10);
        first.run(1);
        check.midpoints(first, 50, -50);
        FlexCycles second = Setups.at(4, 0, 100);
        second.frame(2, 10, 3, 0, 1);
        Setups.silence(second, 1);
        second.run(1);
        check.midpoints(second, 50, -50);
    }

    private static void inThisCycle() {
        FlexCycles x = new FlexCycles(2, 1, 0);
        x.frame(2, 0, 1, 1, 2);
        x.drift(1, 30);
        Setups.allCold(x, 2);
        x.run(2);
        check.midpoints(x, -15, 0);
        x.run(1);
        check.midpoints(x, 0, 0);
    }

    private static void silentOneHears() {
        FlexCycles x = Setups.at(4, 0, 100);
        Setups.silence(x, 0);
        x.run(1);
        check.midpoints(x, 50, 0);
    }

    private static void dynamicFrame() {
        FlexCycles x = Setups.at(4, 0, 100);
        Setups.silence(x, 1);
        x.dynamic(2, 1, 1);
        check.due("run(1)", x.run(1), 2);
        check.midpoints(x, 0, -50);
    }

    private static void ofReady() {
        FlexCycles x = Setups.at(4, 0, 0, 100);
        x.cold(3, false);
        x.run(1);
        check.states(x, 2, 2, 0);
        check.midpoints(x, 0, 0, 0);
        check.offsets(x, 0, 0, 100);
    }

    private static void ofIntegrating() {
        FlexCycles x = Setups.at(4, 0, 0, 100);
        x.cold(3, false);
        x.run(3);
        check.states(x, 2, 2, 1);
        check.midpoints(x, 0, 0, 0);
        check.offsets(x, 0, 0, 100);
    }

    private static void ofPassive() {
        FlexCycles x = Setups.at(7, 808, 0);
        Setups.silence(x, 0);
        x.run(1);
        check.states(x, 3, 2);
        x.run(4);
        check.midpoints(x, -404, 0);
    }

    private static void ofHalted() {
        FlexCycles x = Setups.at(6, 1002, 0);
        Setups.silence(x, 0);
        x.run(1);
        check.states(x, 4, 2);
        x.run(4);
        check.midpoints(x, -501, 0);
    }

    private static void ofReadyAgain() {
        FlexCycles x = Setups.at(6, 1002, 0);
        x.run(2);
        x.cold(1, true);
        check.midpoints(x, -501, 501);
        x.run(1);
        check.midpoints(x, -501, 501);
        x.cold(2, true);
        x.run(1);
        check.midpoints(x, 0, 0);
    }
}

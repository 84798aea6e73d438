/** Step 1 of a CYCLE: the boundary cases of starting up and of integrating. */
public final class StartUpEdgesTest {
    private static final Check check = new Check();

    public static void main(String[] args) {
        check.edge("no ACTIVE node, none COLD", StartUpEdgesTest::noneCold);
        check.edge("no ACTIVE node, one COLD", StartUpEdgesTest::oneCold);
        check.edge("no ACTIVE node, two COLD", StartUpEdgesTest::twoCold);
        check.edge("no ACTIVE node, more than two COLD", StartUpEdgesTest::allCold);
        check.edge("no more COLD before the cycle", StartUpEdgesTest::coldNoMore);
        check.edge("the one node of an object can't start", StartUpEdgesTest::alone);
        check.edge("these become ACTIVE, the others stay READY", StartUpEdgesTest::othersStay);
        check.edge("a PASSIVE one that is COLD is not of the two", StartUpEdgesTest::passiveIsNotOfThem);
        check.edge("a HALTED one that is COLD is not of the two", StartUpEdgesTest::haltedIsNotOfThem);
        check.edge("a READY and an INTEGRATING one, both COLD", StartUpEdgesTest::readyAndIntegrating);
        check.edge("two INTEGRATING ones, both COLD", StartUpEdgesTest::twoIntegrating);
        check.edge("by two COLD ones nodes keep their ERRORS", StartUpEdgesTest::keepErrors);
        check.edge("a PASSIVE one is no ACTIVE one", StartUpEdgesTest::passiveIsNotActive);
        check.edge("a HALTED one is no ACTIVE one", StartUpEdgesTest::haltedIsNotActive);
        check.edge("one ACTIVE node is enough", StartUpEdgesTest::oneActive);
        check.edge("with an ACTIVE node, COLD ones integrate too", StartUpEdgesTest::coldOnesIntegrate);
        check.edge("ACTIVE in the second such cycle behind", StartUpEdgesTest::secondCycle);
        check.edge("none such before the ACTIVE ones go", StartUpEdgesTest::noneBeforeTheGap);
        check.edge("one such before the ACTIVE ones go", StartUpEdgesTest::oneBeforeTheGap);
        check.edge("READY again, it is as long INTEGRATING", StartUpEdgesTest::onceMore);
        check.edge("its ERROR that of the least number", StartUpEdgesTest::leastNumber);
        check.edge("its ERROR that of before", StartUpEdgesTest::errorOfBefore);
        check.edge("it sends in the cycle in which it is ACTIVE", StartUpEdgesTest::sendsAtOnce);
        check.end();
    }

    private static void noneCold() {
        FlexCycles x = Setups.at(0, 0, 0, 0);
        x.cold(1, false);
        x.cold(2, false);
        x.cold(3, false);
        x.run(3);
        check.states(x, 0, 0, 0);
    }

    private static void oneCold() {
        FlexCycles x = Setups.at(0, 0, 0, 0);
        x.cold(1, false);
        x.cold(3, false);
        x.run(3);
        check.states(x, 0, 0, 0);
    }

    private static void twoCold() {
        FlexCycles x = Setups.at(0, 0, 0, 0);
        x.cold(2, false);
        check.states(x, 0, 0, 0);
        x.run(1);
        check.states(x, 2, 0, 2);
    }

    private static void allCold() {
        FlexCycles x = Setups.at(0, new int[16]);
        x.run(1);
        check.states(x, 2, 2, 2, 2, 2, 2, 2, 2, 2, 2, 2, 2, 2, 2, 2, 2);
    }

    private static void coldNoMore() {
        FlexCycles x = Setups.at(0, 0, 0);
        x.cold(1, false);
        x.run(1);
        x.cold(1, true);
        x.cold(2, false);
        x.run(1);
        check.states(x, 0, 0);
    }

    private static void alone() {
        FlexCycles x = Setups.at(0, 0);
        check.due("run(500)", x.run(500), 0);
        check.states(x, 0);
    }

    private static void othersStay() {
        FlexCycles x = Setups.at(0, 0, 0, 0, 0);
        x.cold(1, false);
        x.cold(4, false);
        x.run(1);
        check.states(x, 0, 2, 2, 0);
    }

    /** Nodes 1 and 2 are COLD and PASSIVE, or HALTED, the third one is READY and not COLD. */
    private static FlexCycles gone(int cycle, int apart) {
        FlexCycles x = Setups.at(cycle, apart, 0, 0);
        x.cold(3, false);
        x.run(1);
        return x;
    }

    private static void passiveIsNotOfThem() {
        FlexCycles x = gone(7, 808);
        x.cold(3, true);
        x.run(1);
        check.states(x, 3, 3, 0);
    }

    private static void haltedIsNotOfThem() {
        FlexCycles x = gone(7, 1002);
        x.cold(3, true);
        x.run(1);
        check.states(x, 4, 4, 0);
    }

    private static void passiveIsNotActive() {
        FlexCycles x = gone(7, 808);
        x.run(4);
        check.states(x, 3, 3, 0);
    }

    private static void haltedIsNotActive() {
        FlexCycles x = gone(7, 1002);
        x.run(4);
        check.states(x, 4, 4, 0);
    }

    /** Nodes 1 and 2 are HALTED, 3 and 4 INTEGRATING and not COLD. */
    private static FlexCycles integratingAlone() {
        FlexCycles x = Setups.at(6, 1002, 0, 0, 0);
        x.cold(3, false);
        x.cold(4, false);
        Setups.silence(x, 0);
        Setups.silence(x, 1);
        x.run(2);
        check.states(x, 4, 4, 1, 1);
        return x;
    }

    private static void readyAndIntegrating() {
        FlexCycles x = integratingAlone();
        x.cold(3, true);
        x.run(1);
        check.states(x, 4, 4, 1, 1);
        x.cold(1, true);
        x.run(1);
        check.states(x, 2, 4, 2, 1);
    }

    private static void twoIntegrating() {
        FlexCycles x = integratingAlone();
        x.cold(4, true);
        x.run(1);
        check.states(x, 4, 4, 1, 1);
        x.cold(3, true);
        x.run(1);
        check.states(x, 4, 4, 2, 2);
    }

    private static void keepErrors() {
        FlexCycles x = Setups.at(1, 50, -60);
        Setups.silence(x, 0);
        Setups.silence(x, 1);
        x.run(1);
        check.states(x, 2, 2);
        check.offsets(x, 50, -60);
    }

    /** Node 1 is HALTED, 2 is the one that is ACTIVE, 3 and 4 are READY and not COLD. */
    private static FlexCycles withOneActive() {
        FlexCycles x = Setups.at(6, 1002, 0, 0, 0);
        x.cold(3, false);
        x.cold(4, false);
        Setups.silence(x, 0);
        x.run(1);
        check.states(x, 4, 2, 0, 0);
        return x;
    }

    private static void oneActive() {
        FlexCycles x = withOneActive();
        x.run(1);
        check.states(x, 4, 2, 1, 1);
        x.run(1);
        check.states(x, 4, 2, 1, 1);
        x.run(1);
        check.states(x, 4, 2, 2, 2);
    }

    private static void coldOnesIntegrate() {
        FlexCycles x = withOneActive();
        x.cold(3, true);
        x.cold(4, true);
        x.run(1);
        check.states(x, 4, 2, 1, 1);
        x.run(1);
        check.states(x, 4, 2, 1, 1);
        x.run(1);
        check.states(x, 4, 2, 2, 2);
    }

    private static void secondCycle() {
        FlexCycles x = Setups.at(0, 0, 0, 0);
        x.cold(2, false);
        x.run(1);
        check.states(x, 2, 0, 2);
        x.run(1);
        check.states(x, 2, 1, 2);
        x.run(1);
        check.states(x, 2, 1, 2);
        x.run(1);
        check.states(x, 2, 2, 2);
    }

    private static void noneBeforeTheGap() {
        FlexCycles x = integratingAlone();
        x.run(3);
        check.states(x, 4, 4, 1, 1);
        x.cold(1, true);
        x.cold(2, true);
        x.run(1);
        check.states(x, 2, 2, 1, 1);
        x.run(1);
        check.states(x, 2, 2, 1, 1);
        x.run(1);
        check.states(x, 2, 2, 2, 2);
    }

    private static void oneBeforeTheGap() {
        FlexCycles x = Setups.at(6, 1002, 0, 0);
        x.cold(3, false);
        for (int i = 0; i < 2; i++) {
            Setups.silence(x, 0);
            Setups.silence(x, 1);
            x.run(1);
        }
        check.states(x, 2, 2, 1);
        x.run(1);
        check.states(x, 4, 4, 1);
        x.run(3);
        check.states(x, 4, 4, 1);
        x.cold(1, true);
        x.cold(2, true);
        x.run(1);
        check.states(x, 2, 2, 1);
        x.run(1);
        check.states(x, 2, 2, 2);
    }

    private static void onceMore() {
        FlexCycles x = new FlexCycles(3, 1, 0);
        x.cold(1, true);
        x.cold(2, true);
        x.run(4);
        check.states(x, 2, 2, 2);
        x.drift(3, 200);
        x.run(6);
        x.frame(1, 0, 1, 0, 1);
        x.run(1);
        check.states(x, 2, 2, 4);
        x.cold(3, true);
        x.run(1);
        check.states(x, 2, 2, 1);
        x.run(1);
        check.states(x, 2, 2, 1);
        x.run(1);
        check.states(x, 2, 2, 2);
    }

    private static void leastNumber() {
        FlexCycles x = new FlexCycles(5, 1, 0);
        x.cold(2, true);
        x.cold(4, true);
        x.drift(1, 100);
        x.drift(2, 7);
        x.drift(4, -9);
        x.drift(5, 3);
        x.run(4);
        check.states(x, 2, 2, 2, 2, 2);
        check.offsets(x, 3 * 7 + 100, 4 * 7, 3 * 7, 4 * -9, 3 * 7 + 3);
    }

    /** Node 2 is drawn by 100 in the very cycle in which 3 is ACTIVE, and by 25 of its new RATE. */
    private static void errorOfBefore() {
        FlexCycles x = Setups.at(2, 0, 100, 5);
        x.cold(3, false);
        for (int i = 0; i < 3; i++) {
            Setups.silence(x, 0);
            Setups.silence(x, 1);
            x.run(1);
        }
        check.offsets(x, 0, 100, 5);
        x.run(1);
        check.states(x, 2, 2, 2);
        check.offsets(x, 0, -25, 0);
    }

    private static void sendsAtOnce() {
        FlexCycles x = Setups.at(0, 0, 0, 0);
        x.cold(3, false);
        check.due("two start", x.run(1), 2);
        check.due("one is INTEGRATING", x.run(2), 4);
        check.due("it is ACTIVE", x.run(1), 3);
    }
}

/** Step 5 of a CYCLE: which ERRORS move on with DRIFT and RATE, and that FLIPS are gone. */
public final class TimeEdgesTest {
    private static final Check check = new Check();

    public static void main(String[] args) {
        check.edge("a READY node's ERROR moves", TimeEdgesTest::ofReady);
        check.edge("an INTEGRATING node's ERROR moves", TimeEdgesTest::ofIntegrating);
        check.edge("an ACTIVE node's ERROR moves by both", TimeEdgesTest::ofActive);
        check.edge("a PASSIVE node's ERROR moves by both", TimeEdgesTest::ofPassive);
        check.edge("a HALTED node's ERROR stays, from that cycle on", TimeEdgesTest::ofHalted);
        check.edge("a node that is READY again moves by its DRIFT", TimeEdgesTest::ofReadyAgain);
        check.edge("a DRIFT of 200, -200 and 0", TimeEdgesTest::greatestDrifts);
        check.edge("a FLIP that hit is gone", TimeEdgesTest::flipThatHit);
        check.edge("a FLIP that hit nothing is gone", TimeEdgesTest::flipThatMissed);
        check.edge("a FLIP lasts for the first of more cycles", TimeEdgesTest::flipOfTheNextCycle);
        check.edge("a FLIP is there still behind no cycle", TimeEdgesTest::flipBehindNoCycle);
        check.end();
    }

    private static void ofReady() {
        FlexCycles x = new FlexCycles(2, 2, 0);
        x.drift(1, 9);
        x.drift(2, -4);
        x.run(3);
        check.states(x, 0, 0);
        check.offsets(x, 27, -12);
    }

    private static void ofIntegrating() {
        FlexCycles x = Setups.started(3, 1, 0);
        x.run(1);
        x.drift(3, 9);
        x.run(1);
        check.states(x, 2, 2, 1);
        check.offsets(x, 0, 0, 9);
    }

    private static void ofActive() {
        FlexCycles x = Setups.at(5, 400, 0);
        x.drift(1, 7);
        x.drift(2, -3);
        x.run(1);
        check.states(x, 2, 2);
        check.rates(x, -50, 50);
        check.offsets(x, 200 + 7 - 50, 200 - 3 + 50);
    }

    private static void ofPassive() {
        FlexCycles x = Setups.at(7, 808, 0);
        x.run(1);
        check.states(x, 3, 3);
        check.offsets(x, 304, 504);
        x.drift(1, 7);
        x.drift(2, -3);
        x.run(2);
        check.offsets(x, 304 + 2 * (7 - 100), 504 + 2 * (-3 + 100));
    }

    private static void ofHalted() {
        FlexCycles x = Setups.at(6, 1002, 0);
        x.drift(1, 7);
        x.drift(2, -3);
        x.run(1);
        check.states(x, 4, 4);
        check.offsets(x, 1002, 0);
        x.run(9);
        check.offsets(x, 1002, 0);
    }

    private static void ofReadyAgain() {
        FlexCycles x = Setups.at(6, 1002, 0);
        x.run(1);
        x.drift(1, 7);
        x.cold(1, true);
        x.run(2);
        check.states(x, 0, 4);
        check.offsets(x, 14, 0);
    }

    private static void greatestDrifts() {
        FlexCycles x = new FlexCycles(3, 1, 0);
        x.drift(1, 200);
        x.drift(2, -200);
        x.drift(3, 5);
        x.run(500);
        check.offsets(x, 100000, -100000, 2500);
        x.drift(3, 0);
        x.run(500);
        check.offsets(x, 200000, -200000, 2500);
    }

    private static void flipThatHit() {
        FlexCycles x = Setups.started(2, 1, 0);
        x.frame(1, 0, 1, 0, 1);
        x.flip(1, 0);
        check.due("run(1)", x.run(1), 0);
        check.due("the next cycle", x.run(1), 1);
        check.due("it may be told again", x.flip(1, 0), 1);
    }

    private static void flipThatMissed() {
        FlexCycles x = Setups.started(2, 3, 0);
        x.flip(1, 2);
        x.flip(2, 0);
        x.run(1);
        x.frame(1, 2, 1, 0, 1);
        x.frame(1, 0, 2, 0, 1);
        check.due("the next cycle", x.run(1), 2);
        check.due("it may be told again", x.flip(1, 2), 1);
        check.due("and the other", x.flip(2, 0), 2);
    }

    private static void flipOfTheNextCycle() {
        FlexCycles x = Setups.started(2, 1, 0);
        x.frame(1, 0, 1, 0, 1);
        x.flip(1, 0);
        check.due("run(500)", x.run(500), 499);
    }

    private static void flipBehindNoCycle() {
        FlexCycles x = Setups.started(2, 1, 0);
        x.frame(1, 0, 1, 0, 1);
        x.flip(1, 0);
        check.due("run(0)", x.run(0), 0);
        check.due("run(501)", x.run(501), -2);
        check.due("run(-1)", x.run(-1), -2);
        check.due("there is this one", x.flip(1, 0), -3);
        check.due("run(1)", x.run(1), 0);
    }
}

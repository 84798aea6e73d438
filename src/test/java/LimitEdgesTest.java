/** Step 4 of a CYCLE: a MIDPOINT of 500 and more, a RATE of 100 and more, odd and even cycles. */
public final class LimitEdgesTest {
    private static final Check check = new Check();

    public static void main(String[] args) {
        check.edge("a MIDPOINT of 500 or -500 in an even cycle", LimitEdgesTest::fiveHundred);
        check.edge("a MIDPOINT of 501 or -501 in an even cycle", LimitEdgesTest::fiveHundredOne);
        check.edge("a MIDPOINT of -500 beside one of 0", LimitEdgesTest::leastAlone);
        check.edge("a MIDPOINT of -501 beside one of 0", LimitEdgesTest::belowAlone);
        check.edge("a MIDPOINT of 500 beside one of 0", LimitEdgesTest::mostAlone);
        check.edge("a MIDPOINT of 501 beside one of 0", LimitEdgesTest::aboveAlone);
        check.edge("a MIDPOINT of 500 in an odd cycle", LimitEdgesTest::fiveHundredOdd);
        check.edge("a MIDPOINT of 501 in an odd cycle", LimitEdgesTest::fiveHundredOneOdd);
        check.edge("HALTED, the RATE is left", LimitEdgesTest::haltedKeepsRate);
        check.edge("the RATE in an even cycle", LimitEdgesTest::evenCycle);
        check.edge("the RATE in an odd cycle", LimitEdgesTest::oddCycle);
        check.edge("a RATE of 100 or -100", LimitEdgesTest::hundred);
        check.edge("a RATE of 100 or -100, a quarter towards 0", LimitEdgesTest::hundredAndThreeQuarters);
        check.edge("a RATE of 101 or -101", LimitEdgesTest::hundredOne);
        check.edge("a RATE of 100 by two MIDPOINTS", LimitEdgesTest::hundredByTwo);
        check.edge("a RATE of 101 by two MIDPOINTS", LimitEdgesTest::hundredOneByTwo);
        check.edge("a RATE that stays 100", LimitEdgesTest::staysHundred);
        check.edge("a RATE of 100 and less than 1 more", LimitEdgesTest::hundredAndNearlyOne);
        check.edge("a RATE of 100 and 1 more", LimitEdgesTest::hundredAndOne);
        check.edge("a quarter of 3, 4 and 7, towards 0", LimitEdgesTest::quarters);
        check.edge("a quarter of the sum, not the sum of quarters", LimitEdgesTest::quarterOfTheSum);
        check.edge("the cycle before, not the odd one before it", LimitEdgesTest::twoCyclesBefore);
        check.edge("READY in the cycle before: 0", LimitEdgesTest::readyBefore);
        check.edge("INTEGRATING in the cycle before: 0", LimitEdgesTest::integratingBefore);
        check.edge("PASSIVE: its ERROR is drawn and its RATE counts", LimitEdgesTest::passiveMovesOn);
        check.edge("PASSIVE: its RATE is left", LimitEdgesTest::passiveKeepsRate);
        check.end();
    }

    private static FlexCycles ran(int cycle, int... errors) {
        FlexCycles x = Setups.at(cycle, errors);
        x.run(1);
        return x;
    }

    private static void fiveHundred() {
        FlexCycles x = ran(6, 1000, 0);
        check.midpoints(x, -500, 500);
        check.states(x, 2, 2);
        check.offsets(x, 500, 500);
        FlexCycles y = ran(6, 1001, 0);
        check.midpoints(y, -500, 500);
        check.states(y, 2, 2);
        check.offsets(y, 501, 500);
    }

    private static void fiveHundredOne() {
        FlexCycles x = ran(6, 1002, 0);
        check.midpoints(x, -501, 501);
        check.states(x, 4, 4);
        check.offsets(x, 1002, 0);
    }

    private static void leastAlone() {
        FlexCycles x = ran(6, 500, 0, 0);
        check.midpoints(x, -500, 0, 0);
        check.states(x, 2, 2, 2);
        check.offsets(x, 0, 0, 0);
    }

    private static void belowAlone() {
        FlexCycles x = ran(6, 501, 0, 0);
        check.midpoints(x, -501, 0, 0);
        check.states(x, 4, 2, 2);
        check.offsets(x, 501, 0, 0);
    }

    private static void mostAlone() {
        FlexCycles x = ran(6, 0, 0, -500);
        check.midpoints(x, 0, 0, 500);
        check.states(x, 2, 2, 2);
        check.offsets(x, 0, 0, 0);
    }

    private static void aboveAlone() {
        FlexCycles x = ran(6, 0, 0, -501);
        check.midpoints(x, 0, 0, 501);
        check.states(x, 2, 2, 4);
        check.offsets(x, 0, 0, -501);
    }

    private static void fiveHundredOdd() {
        FlexCycles x = ran(7, 1000, 0);
        check.states(x, 3, 3);
        check.rates(x, -100, 100);
        check.offsets(x, 400, 600);
    }

    private static void fiveHundredOneOdd() {
        FlexCycles x = ran(7, 1002, 0);
        check.states(x, 4, 4);
        check.rates(x, 0, 0);
        check.offsets(x, 1002, 0);
    }

    /** The RATES are -50 and 50 from cycle 5 on; unheard, the two drift apart until cycle 9. */
    private static void haltedKeepsRate() {
        FlexCycles x = ran(5, 400, 0);
        check.rates(x, -50, 50);
        check.offsets(x, 150, 250);
        x.drift(1, -200);
        x.drift(2, 200);
        for (int i = 0; i < 3; i++) {
            Setups.silence(x, 0);
            Setups.silence(x, 1);
            x.run(1);
        }
        check.offsets(x, -600, 1000);
        x.run(1);
        check.states(x, 4, 4);
        check.midpoints(x, 800, -800);
        check.rates(x, -50, 50);
        check.offsets(x, -600, 1000);
    }

    private static void evenCycle() {
        FlexCycles x = ran(6, 900, 0);
        check.rates(x, 0, 0);
        check.states(x, 2, 2);
        check.offsets(x, 450, 450);
    }

    private static void oddCycle() {
        FlexCycles x = ran(5, 400, 0);
        check.rates(x, -50, 50);
        check.states(x, 2, 2);
        check.offsets(x, 150, 250);
    }

    private static void hundred() {
        FlexCycles x = ran(7, 800, 0);
        check.midpoints(x, -400, 400);
        check.rates(x, -100, 100);
        check.states(x, 2, 2);
    }

    private static void hundredAndThreeQuarters() {
        FlexCycles x = ran(7, 806, 0);
        check.midpoints(x, -403, 403);
        check.rates(x, -100, 100);
        check.states(x, 2, 2);
    }

    private static void hundredOne() {
        FlexCycles x = ran(7, 808, 0);
        check.midpoints(x, -404, 404);
        check.rates(x, -100, 100);
        check.states(x, 3, 3);
    }

    /** MIDPOINTS of half of apart in cycle 6 and of 200 in cycle 7, each with either sign. */
    private static FlexCycles byTwo(int apart) {
        FlexCycles x = Setups.at(6, apart, 0);
        x.drift(1, 200);
        x.drift(2, -200);
        x.run(1);
        check.rates(x, 0, 0);
        x.run(1);
        check.midpoints(x, -200, 200);
        return x;
    }

    private static void hundredByTwo() {
        FlexCycles x = byTwo(406);
        check.rates(x, -100, 100);
        check.states(x, 2, 2);
    }

    private static void hundredOneByTwo() {
        FlexCycles x = byTwo(408);
        check.rates(x, -100, 100);
        check.states(x, 3, 3);
    }

    /** RATES of -100 and 100 that DRIFTS make up for; the next cycle's count is 10. */
    private static FlexCycles atHundred() {
        FlexCycles x = Setups.at(7, 800, 0);
        x.drift(1, 100);
        x.drift(2, -100);
        x.run(3);
        check.offsets(x, 400, 400);
        return x;
    }

    private static void staysHundred() {
        FlexCycles x = atHundred();
        x.run(20);
        check.rates(x, -100, 100);
        check.states(x, 2, 2);
    }

    private static void hundredAndNearlyOne() {
        FlexCycles x = atHundred();
        x.drift(1, 107);
        x.run(2);
        check.midpoints(x, -3, 3);
        check.rates(x, -100, 100);
        check.states(x, 2, 2);
    }

    private static void hundredAndOne() {
        FlexCycles x = atHundred();
        x.drift(1, 108);
        x.run(2);
        check.midpoints(x, -4, 4);
        check.rates(x, -100, 100);
        check.states(x, 3, 3);
    }

    private static void quarters() {
        check.rates(ran(3, 6, 0), 0, 0);
        check.rates(ran(3, 8, 0), -1, 1);
        check.rates(ran(3, 14, 0), -1, 1);
        check.rates(ran(3, 16, 0), -2, 2);
    }

    private static void quarterOfTheSum() {
        FlexCycles x = Setups.at(2, 4, 0);
        x.drift(1, 4);
        x.run(1);
        check.midpoints(x, -2, 2);
        x.run(1);
        check.midpoints(x, -2, 2);
        check.rates(x, -1, 1);
    }

    private static void twoCyclesBefore() {
        FlexCycles x = ran(5, 400, 0);
        check.rates(x, -50, 50);
        x.run(1);
        check.midpoints(x, 50, -50);
        check.rates(x, -50, 50);
        x.run(1);
        check.midpoints(x, 50, -50);
        check.rates(x, -25, 25);
    }

    private static void readyBefore() {
        FlexCycles x = ran(6, 1002, 0);
        x.run(2);
        x.cold(1, true);
        x.cold(2, true);
        x.drift(1, 5);
        x.run(1);
        check.states(x, 2, 2);
        check.rates(x, 0, 0);
        check.offsets(x, 5, 0);
    }

    private static void integratingBefore() {
        FlexCycles x = ran(6, 0, 0, 600);
        check.states(x, 2, 2, 4);
        check.midpoints(x, 0, 0, -600);
        x.cold(3, true);
        x.run(3);
        check.states(x, 2, 2, 2);
        check.rates(x, 0, 0, 0);
        check.midpoints(x, 0, 0, 0);
    }

    private static void passiveMovesOn() {
        FlexCycles x = Setups.at(7, 808, 0);
        x.drift(2, 7);
        x.run(1);
        check.states(x, 3, 3);
        check.offsets(x, 808 - 404 - 100, 404 + 100 + 7);
    }

    private static void passiveKeepsRate() {
        FlexCycles x = ran(7, 808, 0);
        x.run(10);
        check.states(x, 3, 3);
        check.rates(x, -100, 100);
        check.offsets(x, 304 - 1000, 504 + 1000);
    }
}

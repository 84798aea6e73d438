/** Promises 7, 8 and 13: ERROR, RATE and MIDPOINT (step 4 of a cycle). */
public final class ClockTest {
    private static final Check check = new Check();

    public static void main(String[] args) {
        unknown();
        twoNodes();
        towardsZero();
        dropped();
        onlyHeardOnes();
        onlyActiveOnes();
        midpointStays();
        midpointOfTheCycleBefore();
        backAtOnce();
        check.end();
    }

    private static void clock(String when, FlexCycles x, int node, int offset, int rate, int midpoint) {
        check.due(when + ": offset(" + node + ")", x.offset(node), offset);
        check.due(when + ": rate(" + node + ")", x.rate(node), rate);
        check.due(when + ": midpoint(" + node + ")", x.midpoint(node), midpoint);
    }

    private static void unknown() {
        FlexCycles x = Setups.started(3, 3, 1);
        Setups.allSend(x, 3);
        x.drift(1, 50);
        x.drift(3, 50);
        x.run(9);
        int[] nodes = {0, 4, -1, 17, Integer.MIN_VALUE, Integer.MAX_VALUE};
        for (int node : nodes) {
            clock("no node", x, node, 0, 0, 0);
        }
    }

    private static void twoNodes() {
        FlexCycles x = new FlexCycles(2, 2, 0);
        Setups.allSend(x, 2);
        Setups.allCold(x, 2);
        x.drift(1, 10);
        x.drift(2, -10);
        x.run(1);
        clock("cycle 0", x, 1, 10, 0, 0);
        clock("cycle 0", x, 2, -10, 0, 0);
        x.run(1);
        clock("cycle 1", x, 1, 8, -2, -10);
        clock("cycle 1", x, 2, -8, 2, 10);
        x.run(1);
        clock("cycle 2", x, 1, 8, -2, -8);
        clock("cycle 2", x, 2, -8, 2, 8);
        x.run(1);
        clock("cycle 3", x, 1, 4, -6, -8);
        clock("cycle 3", x, 2, -4, 6, 8);
        x.run(1);
        clock("cycle 4", x, 1, 4, -6, -4);
        x.run(1);
        clock("cycle 5", x, 1, 2, -8, -4);
    }

    private static void towardsZero() {
        FlexCycles x = new FlexCycles(2, 2, 0);
        Setups.allSend(x, 2);
        Setups.allCold(x, 2);
        x.drift(1, 15);
        x.run(1);
        x.drift(1, 0);
        x.run(1);
        clock("half of -15, a quarter of -7", x, 1, 15 - 7 - 1, -1, -7);
        clock("half of 15, a quarter of 7", x, 2, 7 + 1, 1, 7);

        FlexCycles one = new FlexCycles(2, 2, 0);
        Setups.allSend(one, 2);
        Setups.allCold(one, 2);
        one.drift(1, 1);
        one.run(1);
        one.drift(1, 0);
        one.run(1);
        clock("half of -1", one, 1, 1, 0, 0);
        clock("half of 1", one, 2, 0, 0, 0);
    }

    /** The MIDPOINT of node 1, whose ERROR is 0, where the others have these ERRORS. */
    private static int midpointAmong(int... errors) {
        int nodes = errors.length + 1;
        FlexCycles x = new FlexCycles(nodes, 16, 0);
        Setups.allSend(x, nodes);
        Setups.allCold(x, nodes);
        for (int i = 0; i < errors.length; i++) {
            x.drift(i + 2, errors[i]);
        }
        x.run(2);
        return x.midpoint(1);
    }

    private static void dropped() {
        check.due("2, none dropped", midpointAmong(100), 50);
        check.due("3, one each", midpointAmong(10, 100), 10);
        check.due("3, its own is left", midpointAmong(-90, 100), 0);
        check.due("4, one each", midpointAmong(100, 50, 11), 30);
        check.due("4, all below", midpointAmong(-100, -50, -11), -30);
        check.due("7, one each", midpointAmong(90, 1, 40, 20, 100, 30), 45);
        check.due("8, two each", midpointAmong(150, 1, 40, 20, 200, 30, 50), 35);
        check.due("8, its own among them", midpointAmong(-150, -140, -130, 5, 6, 7, 8), -62);
        check.due("9, the same ones too", midpointAmong(9, 9, 9, 9, 9, 9, 9, 9), 9);
        check.due("16, two each", midpointAmong(
                1, 2, 3, 4, 5, 6, 7, 8, 9, 10, 11, 12, 23, 100, 200), 12);
    }

    private static void onlyHeardOnes() {
        FlexCycles x = new FlexCycles(3, 3, 0);
        x.frame(2, 1, 3, 1, 2);
        Setups.allCold(x, 3);
        x.drift(1, 20);
        x.drift(2, 40);
        x.drift(3, 90);
        x.run(1);
        x.run(1);
        check.due("1 hears 2 alone", x.midpoint(1), 10);
        check.due("2 hears none", x.midpoint(2), 0);
        check.due("3 hears 2 alone", x.midpoint(3), -25);
        x.run(1);
        check.due("no frame in this cycle, 1", x.midpoint(1), 0);
        check.due("no frame in this cycle, 3", x.midpoint(3), 0);
        x.flip(1, 1);
        x.flip(2, 1);
        x.run(1);
        check.due("a frame with FLIPS on both channels", x.midpoint(1), 0);
        x.run(1);
        x.flip(1, 1);
        int before = x.offset(2) - x.offset(1);
        x.run(1);
        check.due("a frame with a FLIP on one channel", x.midpoint(1), before / 2);

        FlexCycles dynamic = new FlexCycles(2, 2, 5);
        Setups.allCold(dynamic, 2);
        dynamic.drift(1, 20);
        dynamic.run(1);
        dynamic.dynamic(1, 1, 1);
        check.due("a dynamic frame", dynamic.run(1), 1);
        check.due("it is no STATIC one", dynamic.midpoint(2), 0);
    }

    private static void onlyActiveOnes() {
        FlexCycles x = Setups.started(3, 3, 0);
        Setups.allSend(x, 3);
        x.drift(3, 90);
        x.run(2);
        clock("INTEGRATING, 3 is not corrected", x, 3, 180, 0, 0);
        check.due("nor heard", x.midpoint(1), 0);
        x.run(1);
        clock("ACTIVE, it begins at the ERROR of 1", x, 3, 90, 0, 0);
        x.drift(3, 0);
        x.run(1);
        clock("and is drawn to the others", x, 3, 0, 0, -90);
    }

    private static void midpointStays() {
        FlexCycles x = Setups.apart(808, 7);
        x.run(1);
        check.due("midpoint(1)", x.midpoint(1), -404);
        x.run(1);
        check.due("midpoint(1) while PASSIVE", x.midpoint(1), -404);
        x.cold(1, true);
        check.due("midpoint(1) while READY again", x.midpoint(1), -404);
        x.cold(2, true);
        x.run(1);
        check.due("midpoint(1) while ACTIVE again", x.midpoint(1), 0);
    }

    private static void midpointOfTheCycleBefore() {
        FlexCycles x = Setups.apart(100, 2);
        x.run(1);
        clock("an even cycle", x, 1, 50, 0, -50);
        x.run(1);
        clock("the odd one behind it", x, 1, 38, -12, 0);
        x.run(1);
        check.due("the next even one", x.midpoint(1), -12 + 24);

        FlexCycles y = Setups.apart(808, 7);
        y.run(2);
        y.cold(1, true);
        y.cold(2, true);
        y.run(1);
        clock("not ACTIVE in the cycle before", y, 1, 0, 0, 0);
    }

    /** It was ACTIVE in the cycle before, with a MIDPOINT, though that very cycle halted it. */
    private static void backAtOnce() {
        FlexCycles x = Setups.apart(1002, 6);
        x.run(1);
        check.due("HALTED", x.state(1), Setups.HALTED);
        x.cold(1, true);
        x.cold(2, true);
        x.run(1);
        clock("back in the next cycle", x, 1, -100, -100, 0);
        check.due("a quarter of -501 is too much", x.state(1), Setups.PASSIVE);
    }
}

/** Promise 6: what a node is, as it starts up and integrates (step 1) and leaves (step 4). */
public final class StateTest {
    private static final Check check = new Check();

    public static void main(String[] args) {
        unknown();
        coldStart();
        integration();
        coldOnesIntegrateToo();
        integratingErrors();
        interruptedIntegration();
        integrationAgain();
        coldIntegratingOnesStart();
        halts();
        becomesPassive();
        check.end();
    }

    private static void states(String when, FlexCycles x, int... due) {
        for (int i = 0; i < due.length; i++) {
            check.due(when + ": state(" + (i + 1) + ")", x.state(i + 1), due[i]);
        }
    }

    private static void unknown() {
        FlexCycles x = new FlexCycles(3, 1, 1);
        int[] nodes = {0, 4, -1, 17, Integer.MIN_VALUE, Integer.MAX_VALUE};
        for (int node : nodes) {
            check.due("state(" + node + ")", x.state(node), -1);
        }
    }

    private static void coldStart() {
        FlexCycles x = new FlexCycles(4, 1, 1);
        x.run(5);
        states("none is COLD", x, 0, 0, 0, 0);
        x.cold(3, true);
        x.run(5);
        states("one is COLD", x, 0, 0, 0, 0);
        x.cold(3, false);
        x.cold(4, true);
        x.run(1);
        states("another one is COLD", x, 0, 0, 0, 0);
        x.cold(3, true);
        x.drift(3, 7);
        states("only in a cycle", x, 0, 0, 0, 0);
        x.run(1);
        states("two are COLD", x, 0, 0, 2, 2);
        check.due("a cold start keeps the ERROR", x.offset(3), 7);

        FlexCycles all = new FlexCycles(4, 1, 1);
        Setups.allCold(all, 4);
        all.run(1);
        states("all are COLD", all, 2, 2, 2, 2);

        FlexCycles alone = new FlexCycles(1, 1, 1);
        alone.cold(1, true);
        alone.run(500);
        states("alone", alone, 0);
    }

    private static void integration() {
        FlexCycles x = Setups.started(4, 1, 1);
        states("started", x, 2, 2, 0, 0);
        x.run(1);
        states("one cycle later", x, 2, 2, 1, 1);
        x.run(1);
        states("two cycles later", x, 2, 2, 1, 1);
        x.run(1);
        states("three cycles later", x, 2, 2, 2, 2);
        x.cold(1, false);
        x.cold(2, false);
        x.run(10);
        states("no more COLD, still ACTIVE", x, 2, 2, 2, 2);
    }

    private static void coldOnesIntegrateToo() {
        FlexCycles x = Setups.started(4, 1, 1);
        x.cold(3, true);
        x.cold(4, true);
        x.run(1);
        states("COLD with ACTIVE ones", x, 2, 2, 1, 1);
        x.run(2);
        states("COLD and integrated", x, 2, 2, 2, 2);
    }

    private static void integratingErrors() {
        FlexCycles x = new FlexCycles(5, 1, 1);
        x.cold(2, true);
        x.cold(4, true);
        x.drift(1, 100);
        x.drift(2, 7);
        x.drift(4, -9);
        x.drift(5, 3);
        x.run(3);
        check.due("INTEGRATING drifts by itself", x.offset(1), 300);
        x.run(1);
        check.due("offset(2)", x.offset(2), 28);
        check.due("offset(1): that of 2 before, and its drift", x.offset(1), 121);
        check.due("offset(3): that of 2 before", x.offset(3), 21);
        check.due("offset(4)", x.offset(4), -36);
        check.due("offset(5): that of 2 before, and its drift", x.offset(5), 24);
    }

    /** Nodes 1 and 2 are far apart; they halt in the next cycle. The next cycle's count is 3. */
    private static FlexCycles aboutToHalt(int nodes) {
        FlexCycles x = new FlexCycles(nodes, 16, 1);
        x.drift(1, 200);
        x.drift(2, -200);
        x.run(1);
        x.cold(1, true);
        x.cold(2, true);
        x.run(2);
        x.drift(1, 0);
        x.drift(2, 0);
        x.frame(1, 0, 3, 0, 1);
        x.frame(2, 1, 3, 0, 1);
        return x;
    }

    private static void interruptedIntegration() {
        FlexCycles x = aboutToHalt(3);
        states("before the halt", x, 2, 2, 1);
        x.run(1);
        states("after the halt", x, 4, 4, 1);
        x.run(5);
        states("without an ACTIVE one", x, 4, 4, 1);
        x.cold(1, true);
        x.cold(2, true);
        x.drift(1, 5);
        x.run(1);
        states("a cycle with none at its beginning", x, 2, 2, 1);
        x.run(1);
        states("the second with one at its beginning", x, 2, 2, 2);

        FlexCycles y = aboutToHalt(4);
        y.run(1);
        y.cold(1, true);
        y.cold(2, true);
        y.run(3);
        states("integrated", y, 2, 2, 2, 2);
    }

    private static void integrationAgain() {
        FlexCycles x = Setups.started(3, 1, 1);
        x.drift(3, 200);
        x.run(8);
        x.frame(1, 0, 3, 0, 1);
        x.drift(3, 0);
        x.run(1);
        states("3 has drifted off", x, 2, 2, 4);
        x.cold(3, true);
        states("3 is told to be COLD", x, 2, 2, 0);
        x.run(1);
        states("3 integrates again", x, 2, 2, 1);
        x.run(1);
        states("it takes as long as before", x, 2, 2, 1);
        x.run(1);
        states("it is ACTIVE again", x, 2, 2, 2);
        check.due("with the ERROR of 1", x.offset(3), 0);
    }

    private static void coldIntegratingOnesStart() {
        FlexCycles x = aboutToHalt(5);
        x.run(1);
        states("after the halt", x, 4, 4, 1, 1, 1);
        x.cold(3, true);
        x.run(2);
        states("one COLD, besides HALTED ones that are COLD", x, 4, 4, 1, 1, 1);
        x.cold(1, true);
        x.run(1);
        states("a READY and an INTEGRATING one start", x, 2, 4, 2, 1, 1);

        FlexCycles y = aboutToHalt(4);
        y.run(1);
        y.cold(3, true);
        y.cold(4, true);
        y.run(1);
        states("two INTEGRATING ones start", y, 4, 4, 2, 2);
    }

    private static void halts() {
        FlexCycles just = Setups.apart(1001, 6);
        just.run(1);
        states("a MIDPOINT of 500", just, 2, 2);
        check.due("midpoint(1)", just.midpoint(1), -500);
        check.due("midpoint(2)", just.midpoint(2), 500);
        check.due("offset(1)", just.offset(1), 501);
        check.due("offset(2)", just.offset(2), 500);

        FlexCycles over = Setups.apart(1002, 6);
        over.drift(1, 3);
        over.run(1);
        states("a MIDPOINT of 501", over, 4, 4);
        check.due("midpoint(1) of a HALTED one", over.midpoint(1), -501);
        check.due("midpoint(2) of a HALTED one", over.midpoint(2), 501);
        check.due("a HALTED one keeps its ERROR", over.offset(1), 1002);
        check.due("and so does the other", over.offset(2), 0);
        over.run(50);
        states("it stays HALTED", over, 4, 4);
        check.due("it does not drift", over.offset(1), 1002);
        check.due("it sends nothing", over.run(3), 0);

        FlexCycles odd = Setups.apart(1002, 7);
        odd.run(1);
        states("in an odd cycle it is HALTED, not PASSIVE", odd, 4, 4);
        check.due("its RATE is left", odd.rate(1), 0);
    }

    private static void becomesPassive() {
        FlexCycles just = Setups.apart(807, 7);
        just.run(1);
        states("a RATE of 100", just, 2, 2);
        check.due("rate(1)", just.rate(1), -100);
        check.due("rate(2)", just.rate(2), 100);

        FlexCycles over = Setups.apart(808, 7);
        over.run(1);
        states("a RATE of 101", over, 3, 3);
        check.due("rate(1) of a PASSIVE one", over.rate(1), -100);
        check.due("rate(2) of a PASSIVE one", over.rate(2), 100);
        check.due("its ERROR is corrected and drifts", over.offset(1), 304);
        check.due("and so is the other's", over.offset(2), 504);
        check.due("it sends nothing", over.run(2), 0);
        states("it stays PASSIVE", over, 3, 3);
        check.due("it goes on drifting", over.offset(1), 104);

        FlexCycles even = Setups.apart(808, 6);
        even.run(1);
        states("not in an even cycle", even, 2, 2);
        check.due("rate(1) in an even cycle", even.rate(1), 0);
    }
}

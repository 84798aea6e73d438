/** Promise 10: nodes that are COLD or not, and that are READY again. */
public final class ColdTest {
    private static final Check check = new Check();

    public static void main(String[] args) {
        counts();
        passiveAgain();
        haltedAgain();
        othersStay();
        check.end();
    }

    private static void counts() {
        FlexCycles x = new FlexCycles(3, 1, 1);
        int[] nodes = {0, 4, -1, Integer.MIN_VALUE, Integer.MAX_VALUE};
        for (int node : nodes) {
            check.due("cold(" + node + ", true)", x.cold(node, true), -1);
            check.due("cold(" + node + ", false)", x.cold(node, false), -1);
        }
        check.due("not COLD", x.cold(1, false), 0);
        check.due("one", x.cold(1, true), 1);
        check.due("the same again", x.cold(1, true), 1);
        check.due("two", x.cold(3, true), 2);
        check.due("three", x.cold(2, true), 3);
        check.due("one no more", x.cold(1, false), 2);
        check.due("the same no more", x.cold(1, false), 2);
        x.run(1);
        check.due("as many in other states", x.cold(1, false), 2);
    }

    private static void passiveAgain() {
        FlexCycles x = Setups.apart(808, 7);
        x.drift(1, 5);
        x.run(1);
        check.due("PASSIVE", x.state(1), Setups.PASSIVE);
        check.due("told not to be COLD", x.cold(1, false), 1);
        check.due("it is PASSIVE still", x.state(1), Setups.PASSIVE);
        check.due("its ERROR is left", x.offset(1), 309);
        check.due("its RATE is left", x.rate(1), -100);
        check.due("told to be COLD", x.cold(1, true), 2);
        check.due("it is READY", x.state(1), Setups.READY);
        check.due("its ERROR is 0", x.offset(1), 0);
        check.due("its RATE is 0", x.rate(1), 0);
        check.due("the other is PASSIVE", x.state(2), Setups.PASSIVE);
        x.run(1);
        check.due("its DRIFT is left", x.offset(1), 5);
    }

    private static void haltedAgain() {
        FlexCycles x = Setups.apart(1002, 6);
        x.run(2);
        check.due("HALTED", x.state(1), Setups.HALTED);
        check.due("told not to be COLD", x.cold(1, false), 1);
        check.due("it is HALTED still", x.state(1), Setups.HALTED);
        check.due("its ERROR is left", x.offset(1), 1002);
        check.due("told to be COLD", x.cold(1, true), 2);
        check.due("it is READY", x.state(1), Setups.READY);
        check.due("its ERROR is 0", x.offset(1), 0);
        check.due("COLD already and told so", x.cold(2, true), 2);
        check.due("it is READY too", x.state(2), Setups.READY);
        x.run(2);
        check.due("they start again", x.state(1), Setups.ACTIVE);
    }

    private static void othersStay() {
        FlexCycles x = Setups.started(4, 2, 1);
        x.drift(1, 9);
        x.drift(3, 9);
        x.run(1);
        x.cold(1, true);
        x.cold(3, true);
        check.due("an ACTIVE one stays", x.state(1), Setups.ACTIVE);
        check.due("and its ERROR", x.offset(1), 9);
        check.due("an INTEGRATING one stays", x.state(3), Setups.INTEGRATING);
        check.due("and its ERROR", x.offset(3), 9);
        x.cold(1, false);
        check.due("an ACTIVE one that is not COLD", x.state(1), Setups.ACTIVE);
    }
}

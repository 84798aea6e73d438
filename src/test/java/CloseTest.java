/** Promise 12: whether ACTIVE nodes are no more than a bound apart. */
public final class CloseTest {
    private static final Check check = new Check();

    public static void main(String[] args) {
        bounds();
        lessThanTwo();
        check.end();
    }

    private static void bounds() {
        FlexCycles x = new FlexCycles(4, 4, 0);
        x.cold(1, true);
        x.cold(2, true);
        x.cold(3, true);
        x.drift(1, 10);
        x.drift(2, -30);
        x.drift(3, 50);
        x.drift(4, 200);
        x.run(1);
        check.due("close(80)", x.close(80), true);
        check.due("close(79)", x.close(79), false);
        check.due("close(81)", x.close(81), true);
        check.due("close(0)", x.close(0), false);
        check.due("close(-1)", x.close(-1), false);
        check.due("close(greatest)", x.close(Integer.MAX_VALUE), true);
        check.due("close(least)", x.close(Integer.MIN_VALUE), false);

        FlexCycles same = Setups.started(2, 1, 0);
        check.due("the same ERROR, close(0)", same.close(0), true);
        check.due("the same ERROR, close(-1)", same.close(-1), false);
    }

    private static void lessThanTwo() {
        FlexCycles none = new FlexCycles(2, 2, 0);
        none.drift(1, 200);
        none.run(5);
        check.due("no ACTIVE node, close(0)", none.close(0), true);
        check.due("no ACTIVE node, close(-1)", none.close(-1), true);

        none.frame(2, 0, 3, 0, 1);
        none.drift(1, 2);
        none.run(1);
        Setups.allCold(none, 2);
        none.run(1);
        check.due("1 heard 2 and is HALTED", none.state(1), Setups.HALTED);
        check.due("2 heard none and is ACTIVE", none.state(2), Setups.ACTIVE);
        check.due("one ACTIVE node, close(0)", none.close(0), true);
        check.due("one ACTIVE node, close(-1)", none.close(-1), true);
    }
}

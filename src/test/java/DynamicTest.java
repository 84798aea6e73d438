/** Promise 3, and how DYNAMIC FRAMES are sent (step 3 of a cycle). */
public final class DynamicTest {
    private static final Check check = new Check();

    public static void main(String[] args) {
        refusals();
        room();
        byIdentity();
        firstToldFirst();
        onlyActiveOnes();
        edges();
        check.end();
    }

    private static void refusals() {
        FlexCycles x = new FlexCycles(3, 1, 10);
        int[] nodes = {0, 4, -1, Integer.MIN_VALUE, Integer.MAX_VALUE};
        for (int node : nodes) {
            check.due("node " + node, x.dynamic(node, 1, 1), -1);
        }
        int[] wrong = {0, 61, -1, Integer.MIN_VALUE, Integer.MAX_VALUE};
        for (int number : wrong) {
            check.due("identity " + number, x.dynamic(1, number, 1), -2);
            check.due("length " + number, x.dynamic(1, 1, number), -2);
            check.due("no node, identity " + number, x.dynamic(4, number, 1), -1);
        }
        check.due("identity 60", x.dynamic(3, 60, 1), 1);
        check.due("length 60", x.dynamic(1, 1, 60), 2);
    }

    private static void room() {
        FlexCycles x = Setups.started(3, 1, 60);
        for (int i = 1; i <= 100; i++) {
            check.due("frame " + i, x.dynamic(1, 1, 1), i);
        }
        check.due("the 101st", x.dynamic(1, 1, 1), -4);
        check.due("a range comes before no room", x.dynamic(1, 1, 0), -2);
        check.due("a number comes before no room", x.dynamic(4, 1, 1), -1);
        check.due("one of an identity in a cycle", x.run(1), 1);
        check.due("there is room again", x.dynamic(1, 2, 1), 100);
        check.due("and then not", x.dynamic(1, 2, 1), -4);
        check.due("of two identities", x.run(1), 2);
        check.due("98 wait", x.dynamic(1, 1, 1), 99);
        check.due("all the others", x.run(200), 99);
        check.due("none waits", x.dynamic(1, 1, 1), 1);
    }

    private static void byIdentity() {
        FlexCycles x = Setups.started(2, 1, 10);
        x.dynamic(1, 2, 6);
        x.dynamic(1, 1, 5);
        check.due("1 goes first, then 2 does not fit", x.run(1), 1);
        check.due("2 is the one that waits", x.dynamic(1, 1, 6), 2);
        check.due("6 and 6 do not fit", x.run(1), 1);
        check.due("2 by itself", x.run(1), 1);

        FlexCycles y = Setups.started(2, 1, 10);
        y.dynamic(1, 3, 8);
        check.due("identities 1 and 2 take one each", y.run(1), 1);
        y.dynamic(1, 3, 9);
        check.due("too long behind them", y.run(3), 0);
        y.dynamic(2, 4, 7);
        check.due("what does not fit takes one", y.run(1), 1);
        check.due("what does not fit waits", y.dynamic(1, 1, 1), 2);
    }

    private static void firstToldFirst() {
        FlexCycles x = Setups.started(2, 1, 5);
        x.dynamic(1, 1, 6);
        x.dynamic(2, 1, 1);
        check.due("the one told first keeps the other", x.run(4), 0);

        FlexCycles y = Setups.started(2, 1, 5);
        y.dynamic(1, 1, 1);
        y.dynamic(2, 1, 5);
        y.dynamic(2, 2, 4);
        check.due("the short one is first, so 2 fits", y.run(1), 2);
        y.dynamic(2, 2, 1);
        check.due("the long one is next, so 2 does not", y.run(1), 1);
        check.due("then 2", y.run(1), 1);
    }

    private static void onlyActiveOnes() {
        FlexCycles x = Setups.started(3, 1, 5);
        x.dynamic(3, 1, 5);
        x.dynamic(1, 1, 2);
        x.dynamic(2, 2, 3);
        check.due("a READY node's frame keeps nobody", x.run(1), 2);
        check.due("an INTEGRATING node's waits", x.run(1), 0);
        check.due("it is sent when it is ACTIVE", x.run(1), 1);
        check.due("none waits", x.dynamic(1, 1, 1), 1);
    }

    private static void edges() {
        FlexCycles none = Setups.started(2, 1, 0);
        none.dynamic(1, 1, 1);
        check.due("no MINIS", none.run(5), 0);

        FlexCycles most = Setups.started(2, 1, 60);
        most.dynamic(1, 60, 1);
        check.due("identity 60 in the last MINI", most.run(1), 1);
        most.dynamic(1, 60, 2);
        check.due("it does not fit there", most.run(3), 0);
        most.dynamic(1, 1, 60);
        check.due("all MINIS", most.run(1), 1);

        FlexCycles fewer = Setups.started(2, 1, 59);
        fewer.dynamic(1, 60, 1);
        check.due("identity 60 has no MINI", fewer.run(3), 0);
    }
}

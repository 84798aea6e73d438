/** Promise 4: DRIFT, and what it does to the ERROR (step 5 of a cycle). */
public final class DriftTest {
    private static final Check check = new Check();

    public static void main(String[] args) {
        FlexCycles x = new FlexCycles(3, 1, 1);
        int[] nodes = {0, 4, -1, Integer.MIN_VALUE, Integer.MAX_VALUE};
        for (int node : nodes) {
            check.due("node " + node, x.drift(node, 1), -1);
            check.due("node before range " + node, x.drift(node, 201), -1);
        }
        check.due("200", x.drift(1, 200), 1);
        check.due("-200", x.drift(2, -200), 1);
        int[] wrong = {201, -201, Integer.MIN_VALUE, Integer.MAX_VALUE};
        for (int parts : wrong) {
            check.due("parts " + parts, x.drift(1, parts), -2);
        }
        x.run(1);
        check.due("offset(1)", x.offset(1), 200);
        check.due("offset(2)", x.offset(2), -200);
        check.due("offset(3)", x.offset(3), 0);
        check.due("another", x.drift(1, -3), 1);
        x.run(2);
        check.due("offset(1) later", x.offset(1), 194);
        check.due("offset(2) later", x.offset(2), -600);
        check.due("none", x.drift(1, 0), 1);
        x.run(2);
        check.due("offset(1) without drift", x.offset(1), 194);
        check.end();
    }
}

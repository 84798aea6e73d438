/** Promise 1: how many nodes, SLOTS and MINIS a new object has, and that all else is at first 0. */
public final class NewObjectTest {
    private static final Check check = new Check();

    public static void main(String[] args) {
        nodes(1, 1);
        nodes(2, 2);
        nodes(16, 16);
        nodes(0, 4);
        nodes(17, 4);
        nodes(-1, 4);
        nodes(Integer.MIN_VALUE, 4);
        nodes(Integer.MAX_VALUE, 4);
        slots(1, 1);
        slots(60, 60);
        slots(0, 10);
        slots(61, 10);
        slots(-5, 10);
        slots(Integer.MIN_VALUE, 10);
        slots(Integer.MAX_VALUE, 10);
        minis(0, 0);
        minis(1, 1);
        minis(20, 20);
        minis(60, 60);
        minis(61, 20);
        minis(-1, 20);
        minis(Integer.MIN_VALUE, 20);
        minis(Integer.MAX_VALUE, 20);
        atFirst();
        apartFromEachOther();
        check.end();
    }

    private static void nodes(int told, int due) {
        FlexCycles x = new FlexCycles(told, 5, 5);
        check.due(told + " nodes: state of the last", x.state(due), 0);
        check.due(told + " nodes: state of one more", x.state(due + 1), -1);
        check.due(told + " nodes: slots", x.frame(1, 4, 1, 0, 1), 1);
        check.due(told + " nodes: no more slots", x.frame(1, 5, 1, 0, 1), -1);
    }

    private static void slots(int told, int due) {
        FlexCycles x = new FlexCycles(2, told, 5);
        check.due(told + " slots: the last", x.frame(1, due - 1, 1, 0, 1), 1);
        check.due(told + " slots: one more", x.frame(1, due, 1, 0, 1), -1);
        check.due(told + " slots: flip in the last", x.flip(1, due - 1), 1);
        check.due(told + " slots: flip in one more", x.flip(1, due), -1);
    }

    private static void minis(int told, int due) {
        FlexCycles x = Setups.started(2, 1, told);
        if (due < 60) {
            x.dynamic(1, 1, due + 1);
            check.due(told + " minis: a longer frame", x.run(1), 0);
        }
        if (due > 0) {
            FlexCycles y = Setups.started(2, 1, told);
            y.dynamic(1, 1, due);
            check.due(told + " minis: a frame of this length", y.run(1), 1);
        }
    }

    private static void atFirst() {
        FlexCycles x = new FlexCycles(3, 3, 3);
        for (int node = 1; node <= 3; node++) {
            check.due("state", x.state(node), 0);
            check.due("offset", x.offset(node), 0);
            check.due("rate", x.rate(node), 0);
            check.due("midpoint", x.midpoint(node), 0);
        }
        check.due("place", x.place(0, 0), 0);
        check.due("close", x.close(0), true);
        check.due("run", x.run(1), 0);
        check.due("offset with no drift", x.offset(1), 0);
        check.due("flip", x.flip(1, 0), 1);
        check.due("dynamic", x.dynamic(1, 1, 1), 1);
        check.due("frame", x.frame(1, 0, 1, 0, 1), 1);
        check.due("cold", x.cold(1, true), 1);
    }

    private static void apartFromEachOther() {
        FlexCycles x = new FlexCycles(3, 3, 3);
        FlexCycles y = new FlexCycles(3, 3, 3);
        x.frame(1, 0, 1, 0, 1);
        x.cold(1, true);
        x.drift(1, 9);
        x.run(1);
        check.due("another object's place", y.place(0, 0), 0);
        check.due("another object's cold", y.cold(2, true), 1);
        check.due("another object's offset", y.offset(1), 0);
    }
}

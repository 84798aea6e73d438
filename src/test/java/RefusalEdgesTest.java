/** REFUSALS: each of every call, which of two comes first, and that none changes anything. */
public final class RefusalEdgesTest {
    private static final int LEAST = Integer.MIN_VALUE;
    private static final int MOST = Integer.MAX_VALUE;
    private static final Check check = new Check();

    private interface Call {
        int on(FlexCycles x);
    }

    public static void main(String[] args) {
        frames();
        fullFrames();
        dynamics();
        fullDynamics();
        others();
        check.edge("place throws and changes nothing", RefusalEdgesTest::placeThrows);
        check.end();
    }

    private static void frames() {
        refused("frame -1, no node", -1, x -> x.frame(0, 4, 1, 0, 1));
        refused("frame -1, no node", -1, x -> x.frame(5, 4, 1, 0, 1));
        refused("frame -1, no SLOT", -1, x -> x.frame(1, -1, 1, 0, 1));
        refused("frame -1, no SLOT", -1, x -> x.frame(1, 5, 1, 0, 1));
        refused("frame -1, neither", -1, x -> x.frame(MOST, LEAST, 1, 0, 1));
        refused("frame -2, channel", -2, x -> x.frame(1, 4, 0, 0, 1));
        refused("frame -2, channel", -2, x -> x.frame(1, 4, 4, 0, 1));
        refused("frame -2, EVERY", -2, x -> x.frame(1, 4, 1, 0, 3));
        refused("frame -2, EVERY", -2, x -> x.frame(1, 4, 1, 0, 0));
        refused("frame -2, EVERY", -2, x -> x.frame(1, 4, 1, 0, 128));
        refused("frame -2, BASE", -2, x -> x.frame(1, 4, 1, -1, 4));
        refused("frame -2, BASE", -2, x -> x.frame(1, 4, 1, 4, 4));
        refused("frame -3, the same", -3, x -> x.frame(1, 0, 3, 0, 1));
        refused("frame -3, in one of 64 cycles", -3, x -> x.frame(4, 0, 1, 63, 64));
        refused("frame -3, on one of two channels", -3, x -> x.frame(4, 1, 3, 1, 2));
        refused("frame -1 before -2, node", -1, x -> x.frame(0, 4, 0, 0, 1));
        refused("frame -1 before -2, SLOT", -1, x -> x.frame(1, 5, 1, 0, 3));
        refused("frame -1 before -3", -1, x -> x.frame(5, 0, 3, 0, 1));
        refused("frame -2 before -3, channel", -2, x -> x.frame(1, 0, 7, 0, 1));
        refused("frame -2 before -3, EVERY", -2, x -> x.frame(1, 0, 3, 0, 6));
        refused("frame -2 before -3, BASE", -2, x -> x.frame(1, 0, 3, 1, 1));
    }

    private static void fullFrames() {
        fullRefused("frame -4", -4, x -> x.frame(1, 59, 1, 0, 1));
        fullRefused("frame -1 before -4, node", -1, x -> x.frame(0, 59, 1, 0, 1));
        fullRefused("frame -1 before -4, SLOT", -1, x -> x.frame(1, 60, 1, 0, 1));
        fullRefused("frame -2 before -4, channel", -2, x -> x.frame(1, 59, 0, 0, 1));
        fullRefused("frame -2 before -4, EVERY", -2, x -> x.frame(1, 59, 1, 0, 5));
        fullRefused("frame -2 before -4, BASE", -2, x -> x.frame(1, 59, 1, 2, 2));
        fullRefused("frame -3 before -4", -3, x -> x.frame(1, 0, 1, 0, 64));
        fullRefused("frame -2 before -3 and -4", -2, x -> x.frame(1, 0, 1, 0, 65));
        fullRefused("frame -1 before all others", -1, x -> x.frame(17, 0, 4, -1, 0));
    }

    private static void dynamics() {
        refused("dynamic -1", -1, x -> x.dynamic(0, 1, 1));
        refused("dynamic -1", -1, x -> x.dynamic(5, 1, 1));
        refused("dynamic -2, identity", -2, x -> x.dynamic(1, 0, 1));
        refused("dynamic -2, identity", -2, x -> x.dynamic(1, 61, 1));
        refused("dynamic -2, length", -2, x -> x.dynamic(1, 1, 0));
        refused("dynamic -2, length", -2, x -> x.dynamic(1, 1, 61));
        refused("dynamic -1 before -2, identity", -1, x -> x.dynamic(5, 0, 1));
        refused("dynamic -1 before -2, length", -1, x -> x.dynamic(0, 1, 61));
    }

    private static void fullDynamics() {
        fullRefused("dynamic -4", -4, x -> x.dynamic(1, 1, 1));
        fullRefused("dynamic -1 before -4", -1, x -> x.dynamic(17, 1, 1));
        fullRefused("dynamic -2 before -4, identity", -2, x -> x.dynamic(1, 61, 1));
        fullRefused("dynamic -2 before -4, length", -2, x -> x.dynamic(1, 1, 0));
        fullRefused("dynamic -1 before all others", -1, x -> x.dynamic(LEAST, MOST, MOST));
    }

    private static void others() {
        refused("drift -1", -1, x -> x.drift(0, 9));
        refused("drift -1", -1, x -> x.drift(5, 9));
        refused("drift -2", -2, x -> x.drift(1, 201));
        refused("drift -2", -2, x -> x.drift(1, -201));
        refused("drift -1 before -2", -1, x -> x.drift(5, 201));
        refused("run -2", -2, x -> x.run(-1));
        refused("run -2", -2, x -> x.run(501));
        refused("state -1", -1, x -> x.state(5));
        refused("cold -1, on", -1, x -> x.cold(0, true));
        refused("cold -1, on", -1, x -> x.cold(5, true));
        refused("cold -1, off", -1, x -> x.cold(5, false));
        refused("flip -1, channel", -1, x -> x.flip(0, 1));
        refused("flip -1, channel", -1, x -> x.flip(3, 1));
        refused("flip -1, SLOT", -1, x -> x.flip(1, -1));
        refused("flip -1, SLOT", -1, x -> x.flip(1, 5));
        refused("flip -3", -3, x -> x.flip(1, 0));
        refused("flip -1 before -3", -1, x -> x.flip(3, 0));
    }

    private static void refused(String sentence, int due, Call call) {
        check.edge(sentence, () -> compare(busy(), busy(), due, call));
    }

    private static void fullRefused(String sentence, int due, Call call) {
        check.edge(sentence, () -> compare(full(), full(), due, call));
    }

    /** Node 1 is ACTIVE, 2 HALTED, 3 INTEGRATING, 4 READY; there are frames that wait and FLIPS. */
    private static FlexCycles busy() {
        FlexCycles x = new FlexCycles(4, 5, 10);
        x.frame(1, 0, 3, 0, 1);
        x.frame(2, 1, 1, 1, 2);
        x.frame(3, 2, 2, 0, 4);
        x.frame(4, 3, 3, 3, 4);
        x.drift(2, 200);
        x.drift(4, 200);
        x.run(6);
        x.drift(1, 30);
        x.drift(4, -20);
        x.cold(1, true);
        x.cold(2, true);
        x.cold(4, true);
        x.run(2);
        x.cold(4, true);
        x.dynamic(1, 2, 8);
        x.dynamic(3, 1, 3);
        x.dynamic(4, 60, 60);
        x.flip(1, 0);
        x.flip(2, 3);
        check.states(x, 2, 4, 1, 0);
        return x;
    }

    private static FlexCycles full() {
        FlexCycles x = new FlexCycles(16, 60, 60);
        for (int i = 0; i < 100; i++) {
            x.frame(1 + i % 16, i / 2, 1 + i % 2, 0, 1);
            x.dynamic(1 + i % 16, 1 + i % 60, 1 + i % 60);
        }
        x.drift(2, 5);
        x.cold(1, true);
        x.cold(2, true);
        x.flip(1, 0);
        return x;
    }

    /** Only x is told the call; from then on it must answer as its twin does. */
    private static void compare(FlexCycles x, FlexCycles twin, int due, Call call) {
        check.due("the answer", call.on(x), due);
        check.due("the answer again", call.on(x), due);
        look(x, twin);
        check.due("a FLIP", x.flip(1, 2), twin.flip(1, 2));
        check.due("COLD ones", x.cold(4, false), twin.cold(4, false));
        check.due("close(40)", x.close(40), twin.close(40));
        for (int i = 0; i < 5; i++) {
            check.due("run(1)", x.run(1), twin.run(1));
            look(x, twin);
        }
        check.due("one more waits", x.dynamic(1, 9, 9), twin.dynamic(1, 9, 9));
        check.due("one more stands", x.frame(1, 4, 1, 3, 8), twin.frame(1, 4, 1, 3, 8));
        check.due("run(70)", x.run(70), twin.run(70));
        look(x, twin);
    }

    private static void look(FlexCycles x, FlexCycles twin) {
        for (int node = 1; node <= 4; node++) {
            check.due("state(" + node + ")", x.state(node), twin.state(node));
            check.due("offset(" + node + ")", x.offset(node), twin.offset(node));
            check.due("rate(" + node + ")", x.rate(node), twin.rate(node));
            check.due("midpoint(" + node + ")", x.midpoint(node), twin.midpoint(node));
        }
        for (int slot = 0; slot < 5; slot++) {
            check.due("place(" + slot + ", 0)", x.place(slot, 0), twin.place(slot, 0));
            check.due("place(" + slot + ", 63)", x.place(slot, 63), twin.place(slot, 63));
        }
    }

    private static void placeThrows() {
        FlexCycles x = busy();
        check.placeThrows(x, -1, 0);
        check.placeThrows(x, 5, 0);
        check.placeThrows(x, 0, -1);
        check.placeThrows(x, 0, 64);
        check.placeThrows(x, 5, 64);
        check.placeThrows(x, LEAST, MOST);
        compare(x, busy(), 1, y -> y.place(0, 0));
    }
}

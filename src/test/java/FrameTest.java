/** Promise 2: numbers and refusals of STATIC FRAMES. */
public final class FrameTest {
    private static final Check check = new Check();

    public static void main(String[] args) {
        unknown();
        ranges();
        clashes();
        order();
        room();
        check.end();
    }

    private static void unknown() {
        FlexCycles x = new FlexCycles(4, 5, 10);
        int[] nodes = {0, 5, -1, Integer.MIN_VALUE, Integer.MAX_VALUE};
        for (int node : nodes) {
            check.due("node " + node, x.frame(node, 0, 1, 0, 1), -1);
        }
        int[] slots = {-1, 5, 60, Integer.MIN_VALUE, Integer.MAX_VALUE};
        for (int slot : slots) {
            check.due("slot " + slot, x.frame(1, slot, 1, 0, 1), -1);
        }
        check.due("the first that is taken", x.frame(4, 4, 1, 0, 1), 1);
    }

    private static void ranges() {
        FlexCycles x = new FlexCycles(4, 60, 10);
        int[] channels = {0, 4, -1, Integer.MIN_VALUE, Integer.MAX_VALUE};
        for (int channel : channels) {
            check.due("channel " + channel, x.frame(1, 0, channel, 0, 1), -2);
        }
        int taken = 0;
        for (int every = -130; every <= 130; every++) {
            boolean right = every == 1 || every == 2 || every == 4 || every == 8
                    || every == 16 || every == 32 || every == 64;
            if (right) {
                check.due("base -1 of " + every, x.frame(1, taken, 1, -1, every), -2);
                check.due("base beyond " + every, x.frame(1, taken, 1, every, every), -2);
                check.due("last base of " + every, x.frame(1, taken, 1, every - 1, every), ++taken);
            } else {
                check.due("every " + every, x.frame(1, 50, 1, 0, every), -2);
            }
        }
        check.due("least every", x.frame(1, 50, 1, 0, Integer.MIN_VALUE), -2);
        check.due("greatest every", x.frame(1, 50, 1, 0, Integer.MAX_VALUE), -2);
        check.due("least base", x.frame(1, 50, 1, Integer.MIN_VALUE, 64), -2);
        check.due("greatest base", x.frame(1, 50, 1, Integer.MAX_VALUE, 64), -2);
        check.due("refusals took no number", x.frame(1, 50, 1, 0, 64), taken + 1);
    }

    private static void clashes() {
        FlexCycles x = new FlexCycles(4, 5, 10);
        check.due("1 of 4", x.frame(1, 0, 1, 1, 4), 1);
        check.due("the same", x.frame(1, 0, 1, 1, 4), -3);
        check.due("another node", x.frame(2, 0, 1, 1, 4), -3);
        check.due("1 of 2", x.frame(2, 0, 1, 1, 2), -3);
        check.due("0 of 1", x.frame(2, 0, 1, 0, 1), -3);
        check.due("5 of 8", x.frame(2, 0, 1, 5, 8), -3);
        check.due("61 of 64", x.frame(2, 0, 1, 61, 64), -3);
        check.due("both channels", x.frame(2, 0, 3, 1, 4), -3);
        check.due("the other channel", x.frame(2, 0, 2, 1, 4), 2);
        check.due("both are taken", x.frame(3, 0, 3, 5, 8), -3);
        check.due("another slot", x.frame(2, 1, 3, 1, 4), 3);
        check.due("3 of 4", x.frame(2, 0, 3, 3, 4), 4);
        check.due("0 of 2", x.frame(2, 0, 1, 0, 2), 5);
        check.due("2 of 64 beside 0 of 2", x.frame(2, 0, 1, 2, 64), -3);
        check.due("2 of 64 on channel 2", x.frame(2, 0, 2, 2, 64), 6);
        check.due("3 of 64 on channel 2", x.frame(2, 0, 2, 3, 64), -3);
    }

    private static void order() {
        FlexCycles x = new FlexCycles(4, 5, 10);
        x.frame(1, 0, 3, 0, 1);
        check.due("no node, wrong channel", x.frame(9, 0, 7, 0, 1), -1);
        check.due("no slot, wrong every", x.frame(1, 9, 1, 0, 3), -1);
        check.due("wrong base in a taken slot", x.frame(1, 0, 1, 1, 1), -2);
    }

    private static void room() {
        FlexCycles x = new FlexCycles(4, 60, 10);
        for (int i = 0; i < 100; i++) {
            check.due("frame " + i, x.frame(1 + i % 4, i / 64, 3, i % 64, 64), i + 1);
        }
        check.due("the 101st", x.frame(1, 2, 1, 0, 1), -4);
        check.due("a clash comes before no room", x.frame(1, 0, 1, 0, 64), -3);
        check.due("a range comes before no room", x.frame(1, 2, 0, 0, 64), -2);
        check.due("a number comes before no room", x.frame(0, 2, 1, 0, 64), -1);
        check.due("the refused one does not stand", x.place(2, 0), 0);
        check.due("the last one stands", x.place(1, 35), 4);
    }
}

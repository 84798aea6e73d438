/** Promise 11: FLIPS, and what they do in the next cycle. */
public final class FlipTest {
    private static final Check check = new Check();

    public static void main(String[] args) {
        refusals();
        onChannels();
        goneAfterACycle();
        check.end();
    }

    private static void refusals() {
        FlexCycles x = new FlexCycles(2, 5, 1);
        int[] channels = {0, 3, -1, Integer.MIN_VALUE, Integer.MAX_VALUE};
        for (int channel : channels) {
            check.due("channel " + channel, x.flip(channel, 0), -1);
        }
        int[] slots = {-1, 5, 60, Integer.MIN_VALUE, Integer.MAX_VALUE};
        for (int slot : slots) {
            check.due("slot " + slot, x.flip(1, slot), -1);
        }
        int due = 0;
        for (int slot = 0; slot < 5; slot++) {
            for (int channel = 1; channel <= 2; channel++) {
                check.due("flip(" + channel + ", " + slot + ")", x.flip(channel, slot), ++due);
                check.due("again", x.flip(channel, slot), -3);
            }
        }
    }

    private static void onChannels() {
        FlexCycles x = Setups.started(2, 5, 0);
        x.frame(1, 0, 1, 0, 1);
        x.frame(1, 1, 2, 0, 1);
        x.frame(2, 2, 3, 0, 1);
        check.due("no FLIP", x.run(1), 3);
        x.flip(1, 0);
        check.due("on its channel", x.run(1), 2);
        x.flip(2, 0);
        check.due("not on its channel", x.run(1), 3);
        x.flip(2, 1);
        check.due("on channel 2", x.run(1), 2);
        x.flip(1, 1);
        check.due("not on channel 2", x.run(1), 3);
        x.flip(1, 2);
        check.due("on the first of both", x.run(1), 3);
        x.flip(2, 2);
        check.due("on the second of both", x.run(1), 3);
        x.flip(1, 2);
        x.flip(2, 2);
        check.due("on both", x.run(1), 2);
        x.flip(1, 4);
        x.flip(2, 3);
        check.due("in other slots", x.run(1), 3);
    }

    private static void goneAfterACycle() {
        FlexCycles x = Setups.started(2, 5, 0);
        x.frame(1, 0, 1, 0, 1);
        check.due("first", x.flip(1, 0), 1);
        x.run(0);
        x.run(501);
        check.due("no cycle was run", x.flip(1, 0), -3);
        check.due("second", x.flip(2, 0), 2);
        check.due("in one of three cycles", x.run(3), 2);
        check.due("they are gone", x.flip(2, 0), 1);
    }
}

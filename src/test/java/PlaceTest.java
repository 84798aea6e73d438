/** Promise 9: which node's STATIC FRAME stands in a SLOT. */
public final class PlaceTest {
    private static final Check check = new Check();

    public static void main(String[] args) {
        thrown();
        everyCycle();
        channels();
        withoutRegardToStates();
        check.end();
    }

    private static void thrown() {
        FlexCycles x = new FlexCycles(2, 5, 1);
        x.frame(1, 0, 3, 0, 1);
        int[] slots = {-1, 5, 60, Integer.MIN_VALUE, Integer.MAX_VALUE};
        for (int slot : slots) {
            check.placeThrows(x, slot, 0);
        }
        int[] cycles = {-1, 64, Integer.MIN_VALUE, Integer.MAX_VALUE};
        for (int cycle : cycles) {
            check.placeThrows(x, 0, cycle);
        }
        check.placeThrows(x, 5, 64);
        check.due("place(4, 63)", x.place(4, 63), 0);
        check.due("place(0, 63)", x.place(0, 63), 1);
    }

    private static void everyCycle() {
        FlexCycles x = new FlexCycles(4, 60, 1);
        x.frame(1, 59, 1, 0, 2);
        x.frame(2, 59, 1, 1, 4);
        x.frame(3, 59, 1, 63, 64);
        for (int cycle = 0; cycle < 64; cycle++) {
            int due = cycle % 2 == 0 ? 1 : cycle % 4 == 1 ? 2 : cycle == 63 ? 3 : 0;
            check.due("place(59, " + cycle + ")", x.place(59, cycle), due);
            check.due("place(58, " + cycle + ")", x.place(58, cycle), 0);
        }
    }

    private static void channels() {
        FlexCycles x = new FlexCycles(4, 5, 1);
        x.frame(2, 0, 2, 0, 1);
        check.due("channel 2 alone", x.place(0, 7), 2);
        x.frame(1, 0, 1, 1, 2);
        check.due("channel 1 goes before", x.place(0, 7), 1);
        check.due("channel 2 in other cycles", x.place(0, 6), 2);
        x.frame(3, 1, 3, 0, 1);
        check.due("both channels", x.place(1, 0), 3);
    }

    private static void withoutRegardToStates() {
        FlexCycles x = Setups.apart(1002, 6);
        check.due("READY", x.place(1, 0), 2);
        x.run(1);
        check.due("HALTED", x.place(1, 0), 2);
        x.flip(1, 1);
        x.flip(2, 1);
        check.due("with FLIPS", x.place(1, 0), 2);
    }
}

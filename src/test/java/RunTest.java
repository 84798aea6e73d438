/** Promise 5: how many cycles are run, and which STATIC FRAMES are DONE (step 2 of a cycle). */
public final class RunTest {
    private static final Check check = new Check();

    public static void main(String[] args) {
        ranges();
        cyclesOfFrames();
        onlyActiveOnes();
        bothKinds();
        check.end();
    }

    private static void ranges() {
        FlexCycles x = Setups.started(2, 1, 0);
        x.frame(1, 0, 1, 0, 1);
        int[] wrong = {-1, 501, Integer.MIN_VALUE, Integer.MAX_VALUE};
        x.drift(1, 1);
        for (int cycles : wrong) {
            check.due("run(" + cycles + ")", x.run(cycles), -2);
        }
        check.due("run(0)", x.run(0), 0);
        check.due("no cycle was run", x.offset(1), 0);
        check.due("run(1)", x.run(1), 1);
        check.due("run(500)", x.run(500), 500);
    }

    private static void cyclesOfFrames() {
        for (int every = 1; every <= 64; every *= 2) {
            for (int base = 0; base < every; base++) {
                FlexCycles x = Setups.started(2, 1, 0);
                x.frame(1, 0, 2, base, every);
                for (int cycle = 1; cycle <= 130; cycle++) {
                    String call = base + " of " + every + " in cycle " + cycle;
                    check.due(call, x.run(1), cycle % every == base ? 1 : 0);
                }
            }
        }
        FlexCycles first = new FlexCycles(2, 1, 0);
        Setups.allCold(first, 2);
        first.frame(1, 0, 1, 0, 64);
        check.due("the first cycle's count is 0", first.run(1), 1);
        check.due("up to 63", first.run(63), 0);
        check.due("64", first.run(1), 1);
    }

    private static void onlyActiveOnes() {
        FlexCycles x = new FlexCycles(4, 4, 0);
        Setups.allSend(x, 4);
        check.due("all READY", x.run(3), 0);
        x.cold(1, true);
        check.due("one COLD", x.run(3), 0);
        x.cold(3, true);
        check.due("1 and 3 start and send", x.run(1), 2);
        check.due("2 and 4 integrate", x.run(2), 4);
        check.due("2 and 4 send", x.run(1), 4);
        check.due("on both channels a frame counts once", x.run(10), 40);
    }

    private static void bothKinds() {
        FlexCycles x = Setups.started(2, 2, 5);
        x.frame(1, 0, 3, 0, 1);
        x.frame(1, 1, 3, 1, 2);
        x.dynamic(2, 1, 1);
        check.due("two static ones and a dynamic one", x.run(1), 3);
        check.due("one static one", x.run(1), 1);
        check.due("summed over cycles", x.run(4), 6);
    }
}

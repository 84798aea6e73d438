/** Objects in states that several tests begin with. */
final class Setups {
    static final int READY = 0;
    static final int INTEGRATING = 1;
    static final int ACTIVE = 2;
    static final int PASSIVE = 3;
    static final int HALTED = 4;

    private Setups() {
    }

    /** Nodes 1 and 2 are ACTIVE, the others READY, all ERRORS 0; the next cycle's count is 1. */
    static FlexCycles started(int nodes, int slots, int minis) {
        FlexCycles x = new FlexCycles(nodes, slots, minis);
        x.cold(1, true);
        x.cold(2, true);
        x.run(1);
        return x;
    }

    /** Every node sends in each cycle, in the SLOT below its number. */
    static void allSend(FlexCycles x, int nodes) {
        for (int node = 1; node <= nodes; node++) {
            x.frame(node, node - 1, 3, 0, 1);
        }
    }

    static void allCold(FlexCycles x, int nodes) {
        for (int node = 1; node <= nodes; node++) {
            x.cold(node, true);
        }
    }

    /**
     * Two nodes that send, COLD and READY with the ERRORS apart and 0 and no DRIFT; apart is
     * 0 or more. As many cycles have been run as are told, at least apart / 200 + 1.
     */
    static FlexCycles apart(int apart, int cycles) {
        FlexCycles x = new FlexCycles(2, 2, 0);
        allSend(x, 2);
        x.drift(1, 200);
        x.run(apart / 200);
        x.drift(1, apart % 200);
        x.run(1);
        x.drift(1, 0);
        x.run(cycles - apart / 200 - 1);
        allCold(x, 2);
        return x;
    }
}

/** Objects in states that several tests begin with. */
final class Setups {
    static final int READY = 0;
    static final int INTEGRATING = 1;
    static final int ACTIVE = 2;
    static final int PASSIVE = 3;
    static final int HALTED = 4;

    private Setups() {
    }

    /** Nodes 1 and 2 are ACTIVE, the others READY, all ERRORS 0; the next cycle's count is 1. */
    static FlexCycles started(int nodes, int slots, int minis) {
        FlexCycles x = new FlexCycles(nodes, slots, minis);
        x.cold(1, true);
        x.cold(2, true);
        x.run(1);
        return x;
    }

    /** Every node sends in each cycle, in the SLOT below its number. */
    static void allSend(FlexCycles x, int nodes) {
        for (int node = 1; node <= nodes; node++) {
            x.frame(node, node - 1, 3, 0, 1);
        }
    }

    static void allCold(FlexCycles x, int nodes) {
        for (int node = 1; node <= nodes; node++) {
            x.cold(node, true);
        }
    }

    /** FLIPS on both channels, so that nothing at this SLOT is DONE in the next cycle. */
    static void silence(FlexCycles x, int slot) {
        x.flip(1, slot);
        x.flip(2, slot);
    }

    /** Two nodes as at makes them, with the ERRORS apart and 0. */
    static FlexCycles apart(int apart, int cycle) {
        return at(cycle, apart, 0);
    }

    /**
     * As many nodes as there are ERRORS, all READY and COLD, with these ERRORS and no DRIFT; each
     * sends in every cycle, on both channels of the SLOT below its number. The next cycle's count
     * is as told; the ERRORS are drifted to before it, by at most 200 in a cycle.
     */
    static FlexCycles at(int cycle, int... errors) {
        FlexCycles x = new FlexCycles(errors.length, 60, 20);
        allSend(x, errors.length);
        int[] left = errors.clone();
        for (int c = 0; c < cycle; c++) {
            for (int i = 0; i < left.length; i++) {
                int step = Math.max(-200, Math.min(200, left[i]));
                x.drift(i + 1, step);
                left[i] -= step;
            }
            x.run(1);
        }
        for (int i = 0; i < left.length; i++) {
            if (left[i] != 0) {
                throw new IllegalArgumentException("too few cycles for the ERROR " + errors[i]);
            }
            x.drift(i + 1, 0);
        }
        allCold(x, errors.length);
        return x;
    }
}

/** Counts and prints the answers that are not as due. */
final class Check {
    private int answers = 0;
    private int wrong = 0;

    void due(String call, long got, long want) {
        answers++;
        if (got != want) {
            wrong++;
            System.out.println(call + " answered " + got + ", due is " + want);
        }
    }

    void due(String call, boolean got, boolean want) {
        due(call, got ? 1L : 0L, want ? 1L : 0L);
    }

    void placeThrows(FlexCycles x, int slot, int cycle) {
        String thrown = "nothing";
        try {
            x.place(slot, cycle);
        } catch (RuntimeException e) {
            thrown = e.getClass().getSimpleName();
        }
        boolean right = thrown.equals("ArrayIndexOutOfBoundsException");
        due("place(" + slot + ", " + cycle + ") threw " + thrown + ": right", right, true);
    }

    void end() {
        System.out.println(answers + " answers, " + wrong + " not as due");
        if (wrong != 0) {
            System.exit(1);
        }
    }
}

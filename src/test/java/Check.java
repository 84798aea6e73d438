/** Counts and prints the answers that are not as due. */
final class Check {
    private int answers = 0;
    private int wrong = 0;
    private String sentence = "";

    /** One boundary case: what is not as due in it is printed behind the sentence that names it. */
    void edge(String named, Runnable test) {
        int before = answers;
        sentence = named + ": ";
        test.run();
        due("answers were looked at", answers > before, true);
        sentence = "";
    }

    void due(String call, long got, long want) {
        answers++;
        if (got != want) {
            wrong++;
            System.out.println(sentence + call + " answered " + got + ", due is " + want);
        }
    }

    void due(String call, boolean got, boolean want) {
        due(call, got ? 1L : 0L, want ? 1L : 0L);
    }

    void states(FlexCycles x, int... due) {
        for (int i = 0; i < due.length; i++) {
            due("state(" + (i + 1) + ")", x.state(i + 1), due[i]);
        }
    }

    void offsets(FlexCycles x, int... due) {
        for (int i = 0; i < due.length; i++) {
            due("offset(" + (i + 1) + ")", x.offset(i + 1), due[i]);
        }
    }

    void rates(FlexCycles x, int... due) {
        for (int i = 0; i < due.length; i++) {
            due("rate(" + (i + 1) + ")", x.rate(i + 1), due[i]);
        }
    }

    void midpoints(FlexCycles x, int... due) {
        for (int i = 0; i < due.length; i++) {
            due("midpoint(" + (i + 1) + ")", x.midpoint(i + 1), due[i]);
        }
    }

    /** The machine's own exception tells an index; that of a throw statement has no text. */
    void placeThrows(FlexCycles x, int slot, int cycle) {
        String thrown = "nothing";
        String text = null;
        try {
            x.place(slot, cycle);
        } catch (RuntimeException e) {
            thrown = e.getClass().getSimpleName();
            text = e.getMessage();
        }
        boolean right = thrown.equals("ArrayIndexOutOfBoundsException") && text == null;
        due("place(" + slot + ", " + cycle + ") threw " + thrown + " (" + text + "): right", right, true);
    }

    void end() {
        System.out.println(answers + " answers, " + wrong + " not as due");
        if (wrong != 0) {
            System.exit(1);
        }
    }
}

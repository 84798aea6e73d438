/** Promises 2 and 6 to 13: the boundary cases that are no range, refusal or step of a CYCLE. */
public final class AnswerEdgesTest {
    private static final Check check = new Check();

    public static void main(String[] args) {
        check.edge("frame -3: the same SLOT, channel and cycle", AnswerEdgesTest::sameCycle);
        check.edge("frame: another SLOT", AnswerEdgesTest::anotherSlot);
        check.edge("frame: another channel", AnswerEdgesTest::anotherChannel);
        check.edge("frame: other cycles", AnswerEdgesTest::otherCycles);
        check.edge("frame -3: both channels meet either one", AnswerEdgesTest::bothChannels);
        check.edge("frame -3: whoever's node it is", AnswerEdgesTest::anyNode);
        check.edge("state: each of 0 to 4", AnswerEdgesTest::states);
        check.edge("place: 0 for none", AnswerEdgesTest::placeOfNone);
        check.edge("place: on channel 1, though told later", AnswerEdgesTest::placeOnChannelOne);
        check.edge("place: on channel 2 if there is none on 1", AnswerEdgesTest::placeOnChannelTwo);
        check.edge("place: whatever its node is, FLIPS or not", AnswerEdgesTest::placeInAnyState);
        check.edge("cold: a PASSIVE one is READY again", AnswerEdgesTest::passiveAgain);
        check.edge("cold: a HALTED one is READY again", AnswerEdgesTest::haltedAgain);
        check.edge("cold: not if it is told not to be", AnswerEdgesTest::toldNotToBe);
        check.edge("cold: a READY one keeps its ERROR", AnswerEdgesTest::coldReady);
        check.edge("cold: an INTEGRATING one stays it", AnswerEdgesTest::coldIntegrating);
        check.edge("cold: an ACTIVE one stays it", AnswerEdgesTest::coldActive);
        check.edge("cold: how many, none to all", AnswerEdgesTest::howManyCold);
        check.edge("cold: how many, in any state", AnswerEdgesTest::coldInAnyState);
        check.edge("flip: how many, one to all", AnswerEdgesTest::howManyFlips);
        check.edge("close: just as far apart as the bound", AnswerEdgesTest::justClose);
        check.edge("close: 0 and below", AnswerEdgesTest::closeAtZero);
        check.edge("close: any two, not only neighbours", AnswerEdgesTest::anyTwo);
        check.edge("close: of ACTIVE ones alone", AnswerEdgesTest::activeAlone);
        check.edge("close: one ACTIVE node, or none", AnswerEdgesTest::fewerThanTwo);
        check.edge("close: very far apart", AnswerEdgesTest::veryFar);
        check.edge("midpoint: 0 if it had none yet", AnswerEdgesTest::noMidpointYet);
        check.edge("midpoint: the last one", AnswerEdgesTest::lastMidpoint);
        check.end();
    }

    private static void sameCycle() {
        FlexCycles x = new FlexCycles(2, 3, 0);
        check.due("2 of 4", x.frame(1, 0, 1, 2, 4), 1);
        check.due("2 of 4 again", x.frame(1, 0, 1, 2, 4), -3);
        check.due("0 of 1", x.frame(1, 0, 1, 0, 1), -3);
        check.due("0 of 2", x.frame(1, 0, 1, 0, 2), -3);
        check.due("2 of 8", x.frame(1, 0, 1, 2, 8), -3);
        check.due("6 of 8", x.frame(1, 0, 1, 6, 8), -3);
        check.due("62 of 64", x.frame(1, 0, 1, 62, 64), -3);
        check.due("2 of 64", x.frame(1, 0, 1, 2, 64), -3);
    }

    private static void anotherSlot() {
        FlexCycles x = new FlexCycles(2, 3, 0);
        check.due("SLOT 1", x.frame(1, 1, 3, 0, 1), 1);
        check.due("SLOT 0", x.frame(1, 0, 3, 0, 1), 2);
        check.due("SLOT 2", x.frame(1, 2, 3, 0, 1), 3);
    }

    private static void anotherChannel() {
        FlexCycles x = new FlexCycles(2, 3, 0);
        check.due("channel 1", x.frame(1, 0, 1, 0, 1), 1);
        check.due("channel 2", x.frame(1, 0, 2, 0, 1), 2);
        check.due("channel 2 of SLOT 1", x.frame(1, 1, 2, 0, 1), 3);
        check.due("channel 1 of SLOT 1", x.frame(1, 1, 1, 0, 1), 4);
    }

    private static void otherCycles() {
        FlexCycles x = new FlexCycles(2, 3, 0);
        check.due("2 of 4", x.frame(1, 0, 3, 2, 4), 1);
        check.due("1 of 2", x.frame(1, 0, 3, 1, 2), 2);
        check.due("0 of 8", x.frame(1, 0, 3, 0, 8), 3);
        check.due("60 of 64", x.frame(1, 0, 3, 60, 64), 4);
        check.due("4 of 8, as 60 of 64", x.frame(1, 0, 3, 4, 8), -3);
        check.due("12 of 64", x.frame(1, 0, 3, 12, 64), 5);
    }

    private static void bothChannels() {
        FlexCycles x = new FlexCycles(2, 3, 0);
        x.frame(1, 0, 1, 0, 1);
        check.due("3 beside 1", x.frame(1, 0, 3, 0, 1), -3);
        x.frame(1, 1, 2, 0, 1);
        check.due("3 beside 2", x.frame(1, 1, 3, 0, 1), -3);
        x.frame(1, 2, 3, 0, 1);
        check.due("1 beside 3", x.frame(1, 2, 1, 0, 1), -3);
        check.due("2 beside 3", x.frame(1, 2, 2, 0, 1), -3);
        check.due("3 beside 3", x.frame(1, 2, 3, 0, 1), -3);
    }

    private static void anyNode() {
        FlexCycles x = new FlexCycles(2, 3, 0);
        x.frame(1, 0, 1, 0, 1);
        check.due("of the same node", x.frame(1, 0, 1, 0, 1), -3);
        check.due("of another one", x.frame(2, 0, 1, 0, 1), -3);
    }

    private static void states() {
        FlexCycles x = Setups.at(7, 1002, 0, 0, 808);
        check.states(x, 0, 0, 0, 0);
        x.cold(3, false);
        Setups.silence(x, 0);
        Setups.silence(x, 3);
        x.run(1);
        check.states(x, 4, 2, 0, 3);
        x.run(1);
        check.states(x, 4, 2, 1, 3);
    }

    private static void placeOfNone() {
        FlexCycles x = new FlexCycles(2, 3, 0);
        check.due("no frame", x.place(1, 0), 0);
        x.frame(1, 0, 3, 0, 1);
        x.frame(1, 2, 3, 0, 1);
        x.frame(1, 1, 3, 1, 2);
        check.due("in other SLOTS and cycles", x.place(1, 0), 0);
        check.due("in its cycle", x.place(1, 1), 1);
    }

    private static void placeOnChannelOne() {
        FlexCycles x = new FlexCycles(3, 3, 0);
        x.frame(2, 1, 2, 0, 1);
        x.frame(3, 1, 1, 0, 1);
        check.due("place(1, 0)", x.place(1, 0), 3);
        FlexCycles y = new FlexCycles(3, 3, 0);
        y.frame(3, 1, 1, 0, 1);
        y.frame(2, 1, 2, 0, 1);
        check.due("place(1, 0), told first", y.place(1, 0), 3);
    }

    private static void placeOnChannelTwo() {
        FlexCycles x = new FlexCycles(3, 3, 0);
        x.frame(2, 1, 2, 0, 1);
        x.frame(3, 1, 1, 1, 2);
        check.due("place(1, 0)", x.place(1, 0), 2);
        check.due("place(1, 1)", x.place(1, 1), 3);
        check.due("place(1, 62)", x.place(1, 62), 2);
    }

    private static void placeInAnyState() {
        FlexCycles x = Setups.apart(1002, 6);
        check.due("READY", x.place(0, 9), 1);
        Setups.silence(x, 0);
        check.due("with FLIPS", x.place(0, 9), 1);
        x.run(1);
        check.states(x, 4, 2);
        check.due("HALTED", x.place(0, 9), 1);
        check.due("ACTIVE", x.place(1, 9), 2);
    }

    private static void passiveAgain() {
        FlexCycles x = Setups.apart(808, 7);
        x.drift(1, 5);
        x.run(1);
        check.states(x, 3, 3);
        check.rates(x, -100, 100);
        check.due("COLD already, two are", x.cold(1, true), 2);
        check.states(x, 0, 3);
        check.offsets(x, 0, 504);
        check.rates(x, 0, 100);
        x.run(1);
        check.offsets(x, 5, 604);
    }

    private static void haltedAgain() {
        FlexCycles x = Setups.apart(400, 5);
        x.run(1);
        check.rates(x, -50, 50);
        x.drift(1, -200);
        x.drift(2, 200);
        for (int i = 0; i < 3; i++) {
            Setups.silence(x, 0);
            Setups.silence(x, 1);
            x.run(1);
        }
        x.run(1);
        check.states(x, 4, 4);
        check.due("COLD already, two are", x.cold(1, true), 2);
        check.states(x, 0, 4);
        check.offsets(x, 0, 1000);
        check.rates(x, 0, 50);
        x.run(1);
        check.offsets(x, -200, 1000);
    }

    private static void toldNotToBe() {
        FlexCycles passive = Setups.apart(808, 7);
        passive.run(1);
        check.due("cold(1, false)", passive.cold(1, false), 1);
        check.states(passive, 3, 3);
        check.offsets(passive, 304, 504);
        check.rates(passive, -100, 100);
        FlexCycles halted = Setups.apart(1002, 6);
        halted.run(1);
        check.due("cold(1, false)", halted.cold(1, false), 1);
        check.states(halted, 4, 4);
        check.offsets(halted, 1002, 0);
    }

    private static void coldReady() {
        FlexCycles x = new FlexCycles(2, 1, 0);
        x.drift(1, 7);
        x.run(2);
        check.due("cold(1, true)", x.cold(1, true), 1);
        check.states(x, 0, 0);
        check.offsets(x, 14, 0);
    }

    private static void coldIntegrating() {
        FlexCycles x = Setups.started(3, 1, 0);
        x.drift(3, 7);
        x.run(1);
        check.due("cold(3, true)", x.cold(3, true), 3);
        check.states(x, 2, 2, 1);
        check.offsets(x, 0, 0, 7);
    }

    private static void coldActive() {
        FlexCycles x = Setups.apart(400, 5);
        x.run(1);
        x.cold(1, false);
        check.states(x, 2, 2);
        x.cold(1, true);
        check.states(x, 2, 2);
        check.offsets(x, 150, 250);
        check.rates(x, -50, 50);
    }

    private static void howManyCold() {
        FlexCycles x = new FlexCycles(16, 1, 0);
        check.due("none", x.cold(1, false), 0);
        for (int node = 1; node <= 16; node++) {
            check.due("cold(" + node + ", true)", x.cold(node, true), node);
            check.due("cold(" + node + ", true) again", x.cold(node, true), node);
        }
        for (int node = 1; node <= 16; node++) {
            check.due("cold(" + node + ", false)", x.cold(node, false), 16 - node);
        }
    }

    private static void coldInAnyState() {
        FlexCycles x = Setups.at(7, 1002, 0, 0, 808, 0);
        x.cold(3, false);
        x.cold(5, false);
        Setups.silence(x, 0);
        Setups.silence(x, 3);
        x.run(2);
        check.states(x, 4, 2, 1, 3, 1);
        check.due("with an INTEGRATING one", x.cold(3, true), 4);
        check.due("it stays so", x.cold(5, false), 4);
    }

    private static void howManyFlips() {
        FlexCycles x = new FlexCycles(1, 60, 0);
        for (int slot = 0; slot < 60; slot++) {
            check.due("channel 2 at " + slot, x.flip(2, slot), slot + 1);
        }
        for (int slot = 0; slot < 60; slot++) {
            check.due("channel 1 at " + slot, x.flip(1, slot), slot + 61);
            check.due("again", x.flip(1, slot), -3);
        }
        x.run(1);
        check.due("the next cycle's first", x.flip(1, 59), 1);
    }

    /** Nodes that are ACTIVE with these ERRORS. */
    private static FlexCycles active(int... errors) {
        FlexCycles x = Setups.at(4, errors);
        for (int slot = 0; slot < errors.length; slot++) {
            Setups.silence(x, slot);
        }
        x.run(1);
        check.offsets(x, errors);
        return x;
    }

    private static void justClose() {
        FlexCycles x = active(-30, 50);
        check.due("close(79)", x.close(79), false);
        check.due("close(80)", x.close(80), true);
        check.due("close(81)", x.close(81), true);
        FlexCycles y = active(50, -30);
        check.due("close(79), the other way", y.close(79), false);
        check.due("close(80), the other way", y.close(80), true);
    }

    private static void closeAtZero() {
        FlexCycles same = active(7, 7);
        check.due("close(0)", same.close(0), true);
        check.due("close(-1)", same.close(-1), false);
        check.due("the least bound", same.close(Integer.MIN_VALUE), false);
        FlexCycles apart = active(7, 8);
        check.due("close(0), 1 apart", apart.close(0), false);
        check.due("close(1), 1 apart", apart.close(1), true);
        check.due("the greatest bound", apart.close(Integer.MAX_VALUE), true);
    }

    private static void anyTwo() {
        FlexCycles x = active(0, 40, 80);
        check.due("close(79)", x.close(79), false);
        check.due("close(80)", x.close(80), true);
        FlexCycles y = active(40, 0, 20, 80);
        check.due("close(79), not the first", y.close(79), false);
        check.due("close(80), not the first", y.close(80), true);
    }

    private static void activeAlone() {
        FlexCycles x = Setups.at(7, 1002, 10, 300, 460, 10);
        x.cold(3, false);
        Setups.silence(x, 0);
        Setups.silence(x, 3);
        x.run(1);
        check.states(x, 4, 2, 0, 3, 2);
        check.due("close(0), beside READY, PASSIVE and HALTED", x.close(0), true);
        x.run(1);
        check.states(x, 4, 2, 1, 3, 2);
        check.due("close(0), beside an INTEGRATING one", x.close(0), true);
        check.due("close(-1)", x.close(-1), false);
    }

    private static void fewerThanTwo() {
        FlexCycles x = Setups.apart(1002, 6);
        check.due("none, close(0)", x.close(0), true);
        check.due("none, close(-1)", x.close(-1), true);
        Setups.silence(x, 0);
        x.run(1);
        check.states(x, 4, 2);
        check.due("one, close(0)", x.close(0), true);
        check.due("one, close(-1)", x.close(-1), true);
    }

    private static void veryFar() {
        FlexCycles x = new FlexCycles(2, 1, 0);
        x.drift(1, 200);
        x.drift(2, -200);
        Setups.allCold(x, 2);
        for (int i = 0; i < 400; i++) {
            x.run(500);
        }
        check.states(x, 2, 2);
        check.offsets(x, 40000000, -40000000);
        check.due("close(79999999)", x.close(79999999), false);
        check.due("close(80000000)", x.close(80000000), true);
    }

    private static void noMidpointYet() {
        FlexCycles x = Setups.at(4, 300, 0, 0);
        check.midpoints(x, 0, 0, 0);
        x.cold(3, false);
        x.run(2);
        check.states(x, 2, 2, 1);
        check.due("midpoint(3)", x.midpoint(3), 0);
    }

    private static void lastMidpoint() {
        FlexCycles x = Setups.at(4, 300, 0);
        x.run(1);
        check.midpoints(x, -150, 150);
        x.drift(1, 50);
        x.run(1);
        check.midpoints(x, 0, 0);
        x.run(0);
        check.midpoints(x, 0, 0);
        x.run(1);
        check.due("half of what RATE and DRIFT made", x.midpoint(1), (37 - (50 - 37)) / 2);
    }
}

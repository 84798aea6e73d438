/** Step 3 of a CYCLE: the boundary cases of DYNAMIC FRAMES in MINIS. */
public final class DynamicEdgesTest {
    private static final Check check = new Check();

    public static void main(String[] args) {
        check.edge("no MINIS", DynamicEdgesTest::noMinis);
        check.edge("one MINI", DynamicEdgesTest::oneMini);
        check.edge("m + LENGTH - 1 is MINIS, for m = 1", DynamicEdgesTest::allMinis);
        check.edge("m + LENGTH - 1 is one more than MINIS, for m = 1", DynamicEdgesTest::oneTooLong);
        check.edge("m + LENGTH - 1 is MINIS, behind another", DynamicEdgesTest::fitsBehind);
        check.edge("m + LENGTH - 1 is one more, behind another", DynamicEdgesTest::tooLongBehind);
        check.edge("MINIS are used up", DynamicEdgesTest::usedUp);
        check.edge("one MINI is left", DynamicEdgesTest::oneLeft);
        check.edge("an identity of none takes one MINI", DynamicEdgesTest::noneTakesOne);
        check.edge("what does not fit takes one MINI", DynamicEdgesTest::misfitTakesOne);
        check.edge("what does not fit goes on waiting", DynamicEdgesTest::misfitWaits);
        check.edge("identity 60 has the last of 60 MINIS", DynamicEdgesTest::identitySixty);
        check.edge("identity 60 has none of 59 MINIS", DynamicEdgesTest::identityBeyond);
        check.edge("the greatest identity goes behind the others", DynamicEdgesTest::greatestLast);
        check.edge("one of an identity in a cycle", DynamicEdgesTest::oneInACycle);
        check.edge("the one that was told first", DynamicEdgesTest::toldFirst);
        check.edge("the one that was told first of an ACTIVE node", DynamicEdgesTest::toldFirstOfActive);
        check.edge("if the first does not fit, no later one goes", DynamicEdgesTest::laterOneStays);
        check.edge("DONE, it waits no more", DynamicEdgesTest::waitsNoMore);
        check.edge("the order of telling stays behind a DONE one", DynamicEdgesTest::orderStays);
        check.edge("a READY node's waits", DynamicEdgesTest::ofReady);
        check.edge("an INTEGRATING node's waits", DynamicEdgesTest::ofIntegrating);
        check.edge("a PASSIVE node's waits", DynamicEdgesTest::ofPassive);
        check.edge("a HALTED node's waits", DynamicEdgesTest::ofHalted);
        check.edge("FLIPS do not touch it", DynamicEdgesTest::withFlips);
        check.edge("60 identities in 60 MINIS", DynamicEdgesTest::sixtyInACycle);
        check.edge("100 that wait, then 99, then 100", DynamicEdgesTest::roomAgain);
        check.end();
    }

    private static int waiting(FlexCycles x) {
        return x.dynamic(1, 60, 60) - 1;
    }

    private static void noMinis() {
        FlexCycles x = Setups.started(2, 1, 0);
        x.dynamic(1, 1, 1);
        check.due("run(1)", x.run(1), 0);
        check.due("waiting", waiting(x), 1);
    }

    private static void oneMini() {
        FlexCycles x = Setups.started(2, 1, 1);
        x.dynamic(1, 1, 1);
        x.dynamic(1, 2, 1);
        check.due("identity 1 alone", x.run(1), 1);
        check.due("identity 2 never", x.run(5), 0);
        check.due("waiting", waiting(x), 1);
    }

    private static void allMinis() {
        FlexCycles x = Setups.started(2, 1, 10);
        x.dynamic(1, 1, 10);
        check.due("run(1)", x.run(1), 1);
    }

    private static void oneTooLong() {
        FlexCycles x = Setups.started(2, 1, 10);
        x.dynamic(1, 1, 11);
        check.due("run(1)", x.run(1), 0);
    }

    private static void fitsBehind() {
        FlexCycles x = Setups.started(2, 1, 10);
        x.dynamic(1, 1, 3);
        x.dynamic(2, 2, 7);
        check.due("run(1)", x.run(1), 2);
    }

    private static void tooLongBehind() {
        FlexCycles x = Setups.started(2, 1, 10);
        x.dynamic(1, 1, 3);
        x.dynamic(2, 2, 8);
        check.due("run(1)", x.run(1), 1);
        check.due("the next cycle", x.run(1), 1);
    }

    private static void usedUp() {
        FlexCycles x = Setups.started(2, 1, 10);
        x.dynamic(1, 2, 1);
        x.dynamic(1, 1, 10);
        check.due("run(1)", x.run(1), 1);
        check.due("the next cycle", x.run(1), 1);
        check.due("waiting", waiting(x), 0);
    }

    private static void oneLeft() {
        FlexCycles x = Setups.started(2, 1, 10);
        x.dynamic(1, 2, 1);
        x.dynamic(1, 3, 1);
        x.dynamic(1, 1, 9);
        check.due("run(1)", x.run(1), 2);
        check.due("waiting", waiting(x), 1);
    }

    private static void noneTakesOne() {
        FlexCycles fits = Setups.started(2, 1, 10);
        fits.dynamic(1, 3, 8);
        check.due("8 behind two", fits.run(1), 1);
        FlexCycles longer = Setups.started(2, 1, 10);
        longer.dynamic(1, 3, 9);
        check.due("9 behind two", longer.run(1), 0);
    }

    private static void misfitTakesOne() {
        FlexCycles fits = Setups.started(2, 1, 10);
        fits.dynamic(1, 1, 11);
        fits.dynamic(1, 2, 9);
        check.due("9 behind it", fits.run(1), 1);
        FlexCycles longer = Setups.started(2, 1, 10);
        longer.dynamic(1, 1, 11);
        longer.dynamic(1, 2, 10);
        check.due("10 behind it", longer.run(1), 0);
    }

    private static void misfitWaits() {
        FlexCycles x = Setups.started(2, 1, 10);
        x.dynamic(1, 1, 11);
        x.run(3);
        check.due("waiting", waiting(x), 1);
    }

    private static void identitySixty() {
        FlexCycles x = Setups.started(2, 1, 60);
        x.dynamic(1, 60, 1);
        check.due("LENGTH 1", x.run(1), 1);
        x.dynamic(1, 60, 2);
        check.due("LENGTH 2", x.run(1), 0);
    }

    private static void identityBeyond() {
        FlexCycles x = Setups.started(2, 1, 59);
        x.dynamic(1, 60, 1);
        check.due("identity 60", x.run(1), 0);
        x.dynamic(1, 59, 1);
        check.due("identity 59", x.run(1), 1);
    }

    private static void greatestLast() {
        FlexCycles x = Setups.started(2, 1, 60);
        x.dynamic(1, 60, 1);
        x.dynamic(2, 59, 2);
        check.due("59 takes the last two", x.run(1), 1);
        check.due("then 60", x.run(1), 1);
    }

    private static void oneInACycle() {
        FlexCycles x = Setups.started(2, 1, 10);
        x.dynamic(1, 1, 1);
        x.dynamic(2, 1, 1);
        check.due("run(1)", x.run(1), 1);
        check.due("the next cycle", x.run(1), 1);
    }

    private static void toldFirst() {
        FlexCycles x = Setups.started(2, 1, 10);
        x.dynamic(2, 1, 10);
        x.dynamic(1, 1, 1);
        x.dynamic(1, 2, 9);
        check.due("the long one, so not 2", x.run(1), 1);
        check.due("the short one, and 2", x.run(1), 2);
    }

    private static void toldFirstOfActive() {
        FlexCycles x = Setups.started(3, 1, 10);
        x.dynamic(3, 1, 10);
        x.dynamic(2, 1, 2);
        x.dynamic(1, 1, 8);
        x.dynamic(1, 2, 8);
        check.due("that of 2, and identity 2", x.run(1), 2);
        check.due("waiting", waiting(x), 2);
        check.due("that of 1", x.run(1), 1);
        check.due("that of 3, which is ACTIVE now", x.run(1), 1);
    }

    private static void laterOneStays() {
        FlexCycles x = Setups.started(2, 1, 10);
        x.dynamic(1, 1, 11);
        x.dynamic(1, 1, 1);
        x.dynamic(2, 1, 2);
        check.due("run(3)", x.run(3), 0);
        check.due("waiting", waiting(x), 3);
    }

    private static void waitsNoMore() {
        FlexCycles x = Setups.started(2, 1, 10);
        x.dynamic(1, 1, 1);
        x.dynamic(1, 2, 1);
        check.due("run(1)", x.run(1), 2);
        check.due("run(1) again", x.run(1), 0);
        check.due("waiting", waiting(x), 0);
    }

    private static void orderStays() {
        FlexCycles x = Setups.started(2, 1, 10);
        x.dynamic(1, 1, 2);
        x.dynamic(1, 2, 9);
        x.dynamic(1, 2, 1);
        check.due("identity 1, and the long one does not fit", x.run(1), 1);
        x.dynamic(1, 3, 1);
        check.due("the long one, so not identity 3", x.run(1), 1);
        check.due("the short one, and identity 3", x.run(1), 2);
    }

    private static void ofReady() {
        FlexCycles x = new FlexCycles(2, 1, 10);
        x.dynamic(1, 1, 1);
        check.due("run(1)", x.run(1), 0);
        check.due("waiting", waiting(x), 1);
        Setups.allCold(x, 2);
        check.due("ACTIVE", x.run(1), 1);
    }

    private static void ofIntegrating() {
        FlexCycles x = Setups.started(3, 1, 10);
        x.run(1);
        check.states(x, 2, 2, 1);
        x.dynamic(3, 1, 1);
        check.due("run(1)", x.run(1), 0);
        check.due("waiting", waiting(x), 1);
        check.due("ACTIVE", x.run(1), 1);
    }

    private static void ofPassive() {
        FlexCycles x = Setups.apart(808, 7);
        x.run(1);
        check.states(x, 3, 3);
        leftAndBack(x);
    }

    private static void ofHalted() {
        FlexCycles x = Setups.apart(1002, 6);
        x.run(1);
        check.states(x, 4, 4);
        x.run(1);
        leftAndBack(x);
    }

    private static void leftAndBack(FlexCycles x) {
        x.dynamic(1, 1, 1);
        check.due("run(1)", x.run(1), 0);
        check.due("waiting", waiting(x), 1);
        Setups.allCold(x, 2);
        check.due("ACTIVE again, with two STATIC ones", x.run(1), 3);
    }

    private static void withFlips() {
        FlexCycles x = Setups.started(2, 1, 10);
        Setups.silence(x, 0);
        x.dynamic(1, 1, 1);
        check.due("run(1)", x.run(1), 1);
    }

    private static void sixtyInACycle() {
        FlexCycles x = Setups.started(2, 1, 60);
        for (int identity = 60; identity >= 1; identity--) {
            check.due("waiting", x.dynamic(1, identity, 1), 61 - identity);
        }
        check.due("run(1)", x.run(1), 60);
        check.due("waiting", waiting(x), 0);
    }

    private static void roomAgain() {
        FlexCycles x = Setups.started(2, 1, 1);
        for (int i = 1; i <= 100; i++) {
            check.due("the answer", x.dynamic(2, 1, 1), i);
        }
        check.due("no room", x.dynamic(2, 1, 1), -4);
        check.due("run(1)", x.run(1), 1);
        check.due("room for one", x.dynamic(2, 1, 1), 100);
        check.due("no room again", x.dynamic(2, 1, 1), -4);
        check.due("run(100)", x.run(100), 100);
        check.due("waiting", waiting(x), 0);
    }
}

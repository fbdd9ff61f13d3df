/** The examples of the document, call by call. */
final class ExamplesTest {
    private ExamplesTest() {
    }

    static void run(Check check) {
        aMatch(check);
        anAuction(check);
        Raidline x = new Raidline();
        check.isThrown("emptyShare()", ArithmeticException.class, x::emptyShare);
        check.is("value(7, 7, 0, 0, 1, 50, 50)", x.value(7, 7, 0, 0, 1, 50, 50), 0.0);
        check.is("goesOn()", x.goesOn(), false);
        check.is("points(0)", x.points(0), 0);
    }

    private static void aMatch(Check check) {
        Raidline x = new Raidline();
        check.is("squad()", x.squad(), 0);
        check.is("squad()", x.squad(), 1);
        for (int i = 0; i < 6; i++) {
            check.is("player(5, 5, 5, 'c')", x.player(5, 5, 5, 'c'), i);
        }
        for (int i = 0; i < 6; i++) {
            check.is("putUp", x.putUp(i), 10);
            check.is("bid", x.bid(i % 2, 10), 1);
            check.is("knockDown()", x.knockDown(), i % 2);
        }
        check.is("edition(3, 6, true, 2)", x.edition(3, 6, true, 2), 7);
        check.is("begin(0, 1, false)", x.begin(0, 1, false), 1);
        check.is("raid(0)", x.raid(0), false);
        check.is("touch(1, true, true)", x.touch(1, true, true), 3);
        check.is("comeBack()", x.comeBack(), 1);
        check.is("outAt(1, 0)", x.outAt(1, 0), 1);
    }

    private static void anAuction(Check check) {
        Raidline x = new Raidline();
        check.is("player(5, 5, 5, 'a')", x.player(5, 5, 5, 'a'), 0);
        check.is("squad()", x.squad(), 0);
        check.is("putUp(0)", x.putUp(0), 30);
        check.is("bid(0, 30)", x.bid(0, 30), 1);
        check.is("knockDown()", x.knockDown(), 0);
        check.is("purse(0)", x.purse(0), 170);
    }
}

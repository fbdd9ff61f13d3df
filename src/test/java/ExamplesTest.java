/** The examples of the document, call by call. */
final class ExamplesTest {
    private ExamplesTest() {
    }

    static void run(Check check) {
        aMatch(check);
        anAuction(check);
        aNewObject(check);
    }

    private static void aMatch(Check check) {
        check.by("Examples", "squad() = 0; squad() = 1;");
        Raidline x = new Raidline();
        check.is("squad()", x.squad(), 0);
        check.is("squad()", x.squad(), 1);
        for (int i = 0; i < 6; i++) {
            check.by("Examples", "player(5, 5, 5, 'c') = " + i + ";");
            check.is("player(5, 5, 5, 'c')", x.player(5, 5, 5, 'c'), i);
        }
        for (int i = 0; i < 6; i++) {
            int squad = i % 2;
            check.by("Examples", "putUp(" + i + ") = 10; bid(" + squad + ", 10) = 1; knockDown() = " + squad + ";");
            check.is("putUp(" + i + ")", x.putUp(i), 10);
            check.is("bid(" + squad + ", 10)", x.bid(squad, 10), 1);
            check.is("knockDown()", x.knockDown(), squad);
        }
        check.by("Examples", "edition(3, 6, true, 2) = 7; begin(0, 1, false) = 1; raid(0) = false;");
        check.is("edition(3, 6, true, 2)", x.edition(3, 6, true, 2), 7);
        check.is("begin(0, 1, false)", x.begin(0, 1, false), 1);
        check.is("raid(0)", x.raid(0), false);
        check.by("Examples", "touch(1, true, true) = 3; comeBack() = 1; outAt(1, 0) = 1.");
        check.is("touch(1, true, true)", x.touch(1, true, true), 3);
        check.is("comeBack()", x.comeBack(), 1);
        check.is("outAt(1, 0)", x.outAt(1, 0), 1);
    }

    private static void anAuction(Check check) {
        check.by("Examples", "player(5, 5, 5, 'a') = 0; squad() = 0; putUp(0) = 30; bid(0, 30) = 1; knockDown() = 0; purse(0) = 170.");
        Raidline x = new Raidline();
        check.is("player(5, 5, 5, 'a')", x.player(5, 5, 5, 'a'), 0);
        check.is("squad()", x.squad(), 0);
        check.is("putUp(0)", x.putUp(0), 30);
        check.is("bid(0, 30)", x.bid(0, 30), 1);
        check.is("knockDown()", x.knockDown(), 0);
        check.is("purse(0)", x.purse(0), 170);
    }

    private static void aNewObject(Check check) {
        check.by("Examples", "emptyShare() = throws ArithmeticException; value(7, 7, 0, 0, 1, 50, 50) = 0.0; goesOn() = false; points(0) = 0.");
        Raidline x = new Raidline();
        check.is("emptyShare()", Check.answerOf(x::emptyShare), "throws ArithmeticException");
        check.is("value(7, 7, 0, 0, 1, 50, 50)", x.value(7, 7, 0, 0, 1, 50, 50), 0.0);
        check.is("goesOn()", x.goesOn(), false);
        check.is("points(0)", x.points(0), 0);
    }
}

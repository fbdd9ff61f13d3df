/** What follows raids: revivals, super tackles, empty raids, all outs. */
final class AfterRaidTest {
    private AfterRaidTest() {
    }

    static void run(Check check) {
        revivals(check);
        noRevivals(check);
        superTackles(check);
        doOrDie(check);
        endOfTheCount(check);
        overTheHalf(check);
        allOuts(check);
        oneAllOut(check);
        bothAtOnce(check);
        allOutByDoOrDie(check);
    }

    private static void revivals(Check check) {
        Raidline x = Games.match(5, 5, 1, true, 10);
        Games.touchRaid(x, 3);
        check.is("three out", Games.out(x, 1), "1 3 5");
        Games.touchRaid(x, 2);
        check.is("the two longest out come back", Games.mat(x, 1), "1 3 7 9");
        check.is("one is left", Games.out(x, 1), "5");
        check.is("two out of the other side", Games.out(x, 0), "0 2");
        x.raid(8);
        x.stepOut(9);
        x.comeBack();
        check.is("a step out revives too", Games.out(x, 0), "2");
        check.is("behind the others", Games.out(x, 1), "5 9");
        x.raid(1);
        x.touch(0, true, true);
        x.struggle(7);
        check.is("a caught raider is out", Games.out(x, 1), "5 9 1");
        check.is("and revives one", Games.out(x, 0), "");
    }

    private static void noRevivals(Check check) {
        Raidline x = Games.squads(2, 4, 1, 1, 9);
        x.edition(4, 1, false, 10);
        x.begin(0, 1, false);
        Games.touchRaid(x, 2);
        Games.touchRaid(x, 1);
        check.is("nobody comes back", Games.out(x, 1), "1 3");
        x.raid(2);
        x.struggle(1);
        check.is("nobody for a raider either", Games.out(x, 1), "1 3");
        check.is("the raider is out", Games.out(x, 0), "0 2");
    }

    private static void superTackles(Check check) {
        for (int mat = 3; mat <= 5; mat++) {
            Raidline x = Games.squads(2, 5, 1, 1, 9);
            x.edition(mat, 1, true, 4);
            x.begin(0, 1, false);
            x.raid(0);
            x.struggle(1);
            check.is("a tackle by " + mat, x.points(1), mat <= 3 ? 2 : 1);
            check.is("and for the defender", x.told(1, 't'), mat <= 3 ? 2 : 1);
        }
        Raidline y = Games.squads(2, 4, 1, 1, 9);
        y.edition(4, 1, true, 4);
        y.begin(0, 1, false);
        y.raid(0);
        y.stepOut(1);
        y.struggle(5);
        check.is("4 stood there as the raid began", y.points(1), 1);
        check.is("each of the defenders", y.told(3, 't') + y.told(7, 't') * 10, 11);
    }

    private static void doOrDie(Check check) {
        Raidline x = Games.match(3, 3, 1, true, 10);
        for (int i = 0; i < 4; i++) {
            check.is("not do or die", x.raid(x.matAt(x.turn(), 0)), false);
            x.comeBack();
        }
        check.is("do or die", x.raid(2), true);
        check.is("empty", x.comeBack(), 0);
        check.is("the raider is out", Games.out(x, 0), "2");
        check.is("one point, no super tackle", x.points(1), 1);
        check.is("do or die for the other side", x.raid(1), true);
        x.touch(0, true, false);
        check.is("a touch that is not called", x.comeBack(), 0);
        check.is("out", Games.out(x, 1), "1");
        check.is("that out revives one", Games.mat(x, 0), "0 2 4");
        check.is("the count is ended", x.raid(0), false);
        x.comeBack();
        check.is("the count is ended", x.raid(3), false);
        x.comeBack();
        check.is("once empty again", x.raid(0), false);
        x.comeBack();
        check.is("once empty again", x.raid(3), false);
        x.comeBack();
        check.is("twice empty again, over the end of the half", x.raid(3), true);
        x.bonus();
        check.is("not empty", x.comeBack(), 1);
        check.is("nobody more is out", x.onMat(1), 2);
    }

    private static void endOfTheCount(Check check) {
        Raidline x = Games.squads(2, 3, 1, 1, 9);
        x.edition(3, 1, true, 20);
        x.begin(0, 1, false);
        Games.emptyRaid(x);
        Games.emptyRaid(x);
        Games.touchRaid(x, 1);
        Games.emptyRaid(x);
        Games.emptyRaid(x);
        check.is("the other side's raids do not end it", x.raid(x.matAt(1, 0)), true);
        x.bonus();
        x.comeBack();
        check.is("a raid with a touch ended it", x.raid(0), false);
        x.comeBack();
        check.is("a bonus ended it", x.raid(x.matAt(1, 0)), false);
        x.comeBack();
        check.is("twice empty", x.raid(0), true);
        x.struggle(1);
        check.is("a do or die raid with a caught raider", x.points(1), 3);
        x.raid(x.matAt(1, 0));
        x.stepOut(2);
        x.comeBack();
        check.is("a caught raider ended it", x.raid(x.matAt(0, 0)), false);
        Raidline y = Games.match(3, 3, 1, true, 20);
        Games.emptyRaid(y);
        Games.emptyRaid(y);
        Games.emptyRaid(y);
        Games.emptyRaid(y);
        y.raid(0);
        y.stepOut(1);
        y.comeBack();
        Games.emptyRaid(y);
        check.is("a step out ended it", y.raid(0), false);
        y.comeBack();
        check.is("a new match begins anew", freshMatchIsDoOrDie(), false);
    }

    private static boolean freshMatchIsDoOrDie() {
        Raidline x = Games.match(3, 3, 1, true, 2);
        for (int i = 0; i < 4; i++) {
            Games.emptyRaid(x);
        }
        x.begin(0, 1, false);
        return x.raid(0);
    }

    private static void overTheHalf(Check check) {
        Raidline x = Games.match(3, 3, 1, true, 2);
        Games.emptyRaid(x);
        Games.emptyRaid(x);
        Games.emptyRaid(x);
        check.is("two raids of side 1 are empty, one of side 0", x.raid(0), false);
        Raidline y = Games.match(3, 3, 1, true, 4);
        Games.emptyRaid(y);
        Games.emptyRaid(y);
        Games.touchRaid(y, 1);
        Games.emptyRaid(y);
        check.is("over the end of a half", y.raid(y.matAt(1, 0)), true);
    }

    private static void allOuts(Check check) {
        Raidline x = Games.match(3, 3, 1, true, 10);
        Games.touchRaid(x, 2);
        check.is("one stands", x.onMat(1), 1);
        x.raid(5);
        x.bonus();
        x.struggle(7);
        check.is("the last one is caught: 2 and 2", x.points(0), 2 + 2 + 2);
        check.is("the bonus stays", x.points(1), 1);
        check.is("all are back", Games.mat(x, 1), "1 3 5");
        check.is("none is out", Games.out(x, 1), "");
        x.raid(0);
        x.stepOut(1);
        x.touch(3, true, true);
        x.touch(5, true, true);
        check.is("not within a raid", x.onMat(1), 2);
        x.comeBack();
        check.is("behind it", x.points(0), 6 + 3 + 2);
        check.is("all are back", Games.mat(x, 1), "1 3 5");
        check.isIllegalState("no review behind an all out", () -> x.review(0, 3));
    }

    private static void oneAllOut(Check check) {
        Raidline x = Games.squads(2, 3, 1, 1, 9);
        x.edition(3, 1, false, 10);
        x.begin(0, 1, false);
        x.raid(0);
        x.struggle(1);
        x.raid(1);
        x.struggle(1);
        x.raid(2);
        x.struggle(1);
        check.is("one and two stand", x.onMat(0) * 10 + x.onMat(1), 12);
        x.raid(3);
        x.stepOut(4);
        x.comeBack();
        check.is("an all out of side 0", Games.mat(x, 0), "0 2 4");
        Raidline y = Games.squads(2, 3, 1, 1, 9);
        y.edition(3, 1, false, 10);
        y.begin(0, 1, false);
        int[] raiders = {0, 1, 2};
        for (int raider : raiders) {
            y.raid(raider);
            y.struggle(1);
        }
        y.raid(3);
        y.comeBack();
        y.raid(4);
        y.stepOut(3);
        y.stepOut(5);
        y.comeBack();
        check.is("an all out of side 1 alone", Games.mat(y, 0) + "/" + Games.mat(y, 1), "4/1 3 5");
        y.raid(1);
        y.touch(4, true, true);
        y.comeBack();
        check.is("then one of side 0", Games.mat(y, 0), "0 2 4");
    }

    /** Side 0 has one raider, side 1 one defender who steps out; then the raider is out of breath. */
    private static void bothAtOnce(Check check) {
        Raidline x = Games.squads(2, 3, 9, 6, 1);
        x.edition(3, 1, false, 10);
        x.begin(0, 1, false);
        Games.touchRaid(x, 2);
        Games.touchRaid(x, 2);
        x.raid(4);
        for (int i = 0; i < 6; i++) {
            x.struggle(1);
        }
        x.stepOut(5);
        check.is("out of breath behind a step out", x.comeBack(), 1);
        check.is("2, a step out and an all out", x.points(0), 2 + 1 + 2);
        check.is("2, a super tackle and an all out", x.points(1), 2 + 2 + 2);
        check.is("all are back, on both sides", Games.mat(x, 0) + "/" + Games.mat(x, 1), "0 2 4/1 3 5");
        check.is("the mean of three raids", x.meanPoints(), 11.0 / 3.0);
    }

    private static void allOutByDoOrDie(Check check) {
        Raidline x = Games.match(3, 3, 1, false, 20);
        for (int i = 0; i < 4; i++) {
            Games.emptyRaid(x);
        }
        x.raid(0);
        x.comeBack();
        check.is("a raider out by do or die", Games.mat(x, 0), "2 4");
        x.raid(1);
        x.touch(2, true, true);
        x.comeBack();
        for (int i = 0; i < 4; i++) {
            Games.emptyRaid(x);
        }
        int before = x.points(1);
        check.is("do or die", x.raid(4), true);
        x.touch(1, true, false);
        x.comeBack();
        check.is("one point and an all out", x.points(1) - before, 3);
        check.is("all are back", Games.mat(x, 0), "0 2 4");
        check.isIllegalState("no review behind it", () -> x.review(0, 1));
    }
}

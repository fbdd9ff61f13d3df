import java.util.function.Supplier;

/** "Points", "Empty raids" and "All out": what follows each raid. */
final class PointsTest {
    private PointsTest() {
    }

    static void run(Check check) {
        touchesAtReturn(check);
        bonusAtReturn(check);
        outOfBreathOrCaught(check);
        superTackles(check);
        superTacklesOutOfBreath(check);
        asTheRaidBegan(check);
        whatCounts(check);
        ifRevived(check);
        revivals(check);
        fewerOutThanRevivals(check);
        revivalsForRaiders(check);
        revivalsForStepsOut(check);
        emptyRaids(check);
        twoEmptyRaids(check);
        eachSideByItself(check);
        overTheHalf(check);
        doOrDie(check);
        doOrDieThatIsNotEmpty(check);
        endOfTheCount(check);
        endByDoOrDie(check);
        emptyAllTheSame(check);
        allOut(check);
        allComeBack(check);
        allOutOfRaiders(check);
        bothAllOut(check);
        nobodyIsOut(check);
        outsAndPointsAlone(check);
    }

    private static void touchesAtReturn(Check check) {
        check.by("Points", "At a return each defender who is touched, as called, is out, by rising numbers, for a point each for the raiders;");
        Raidline x = Games.match(5, 5, 1, true, 10);
        x.raid(0);
        x.touch(9, true, true);
        x.touch(1, true, true);
        x.touch(5, false, true);
        x.touch(3, true, false);
        check.is("nobody is out in the raid", Games.out(x, 1) + Games.points(x), "0:0");
        check.is("three of four", x.comeBack(), 3);
        check.is("by rising numbers", Games.out(x, 1), "1 5 9");
        check.is("on the mat", Games.mat(x, 1), "3 7");
        check.is("points", Games.points(x), "3:0");
    }

    private static void bonusAtReturn(Check check) {
        check.by("Points", "the bonus counts too.");
        Raidline x = Games.match(5, 5, 1, true, 10);
        x.raid(0);
        x.bonus();
        x.touch(1, true, true);
        check.is("a bonus and a touch", x.comeBack(), 2);
        check.is("points", Games.points(x), "2:0");
    }

    private static void outOfBreathOrCaught(Check check) {
        check.by("Points", "A raider who is caught or out of breath is out:");
        Raidline x = Games.weakRaiders(4, 4, true);
        x.raid(2);
        x.struggle(1);
        check.is("caught", Games.mat(x, 0) + "/" + Games.out(x, 0), "0 4 6/2");
        Raidline y = Games.strongRaiders(4, 4, true);
        Games.breathlessRaid(y);
        check.is("out of breath", Games.mat(y, 0) + "/" + Games.out(y, 0), "2 4 6/0");
    }

    private static void superTackles(Check check) {
        check.by("Points", "1 point for the defenders, 2 if 3 or fewer of them stood there as the raid began, a super tackle;");
        for (int mat = 3; mat <= 7; mat++) {
            Raidline x = Games.weakRaiders(7, mat, true);
            x.raid(0);
            x.struggle(1);
            check.is("a tackle by " + mat, Games.points(x), mat <= 3 ? "0:2" : "0:1");
        }
        for (int left = 1; left <= 2; left++) {
            Raidline x = Games.weakRaiders(3, 3, false);
            Games.touchRaid(x, 3 - left);
            Games.emptyRaids(x, 1);
            x.raid(0);
            x.struggle(1);
            check.is("a tackle by " + left, x.points(1), 2);
        }
    }

    private static void superTacklesOutOfBreath(Check check) {
        for (int mat = 3; mat <= 5; mat++) {
            Raidline x = Games.strongRaiders(5, mat, true);
            Games.breathlessRaid(x);
            check.is("out of breath against " + mat, Games.points(x), mat <= 3 ? "0:2" : "0:1");
        }
        for (int left = 1; left <= 2; left++) {
            Raidline x = Games.strongRaiders(3, 3, false);
            Games.touchRaid(x, 3 - left);
            Games.emptyRaids(x, 1);
            Games.breathlessRaid(x);
            check.is("out of breath against " + left, x.points(1), 2);
        }
    }

    private static void asTheRaidBegan(Check check) {
        Raidline x = Games.weakRaiders(4, 4, true);
        x.raid(0);
        x.stepOut(1);
        x.stepOut(3);
        x.struggle(1);
        check.is("4 as the raid began, 2 as it ended", Games.points(x), "2:1");
        Raidline y = Games.weakRaiders(4, 3, true);
        y.raid(0);
        y.stepOut(1);
        y.struggle(1);
        check.is("3 as the raid began", Games.points(y), "1:2");
    }

    private static void whatCounts(Check check) {
        check.by("Points", "touches of that raid count for nothing, the bonus and steps out do.");
        Raidline x = Games.weakRaiders(5, 5, false);
        x.raid(0);
        x.touch(1, true, true);
        x.bonus();
        x.stepOut(9);
        x.struggle(2);
        check.is("caught", Games.points(x), "2:1");
        check.is("the touched one stays", Games.mat(x, 1), "1 3 5 7");
        check.is("the one who stepped out is out", Games.out(x, 1), "9");
        Raidline y = Games.strongRaiders(5, 5, false);
        y.raid(0);
        y.touch(1, true, true);
        y.bonus();
        y.stepOut(9);
        for (int i = 0; i < 5; i++) {
            y.struggle(2);
        }
        check.is("out of breath", Games.points(y), "2:1");
        check.is("the touched one stays", Games.mat(y, 1), "1 3 5 7");
    }

    private static void ifRevived(Check check) {
        check.by("Points", "Then, if the edition revives,");
        Raidline x = Games.match(4, 4, 1, false, 10);
        Games.touchRaid(x, 2);
        Games.touchRaid(x, 1);
        check.is("not revived", Games.out(x, 1), "1 3");
        x.raid(2);
        x.touch(5, true, true);
        x.comeBack();
        check.is("nor the others", Games.out(x, 0) + "/" + Games.out(x, 1), "0/1 3 5");
        Raidline y = Games.weakRaiders(4, 4, false);
        y.raid(0);
        y.stepOut(1);
        y.struggle(1);
        check.is("nor for a raider who is out", Games.out(y, 0) + "/" + Games.out(y, 1), "0/1");
    }

    private static void revivals(Check check) {
        check.by("Points", "for each out of the other squad in the raid, that of a raider too, the player of a squad who is out longest comes back.");
        Raidline x = Games.match(5, 5, 1, true, 10);
        x.raid(0);
        x.stepOut(5);
        x.touch(1, true, true);
        x.touch(3, true, true);
        x.comeBack();
        check.is("three are out", Games.out(x, 1), "5 1 3");
        Games.touchRaid(x, 1);
        check.is("one comes back", Games.mat(x, 1) + "/" + Games.out(x, 1), "5 7 9/1 3");
        Games.emptyRaids(x, 1);
        Games.touchRaid(x, 2);
        check.is("two come back", Games.mat(x, 1) + "/" + Games.out(x, 1), "1 3 5 7 9/");
        check.is("nobody for the others", Games.out(x, 0), "0 2 4");
    }

    private static void fewerOutThanRevivals(Check check) {
        Raidline x = Games.match(6, 5, 1, true, 10);
        Games.touchRaid(x, 1);
        Games.touchRaid(x, 3);
        check.is("one is out, three outs of the others", Games.mat(x, 1) + "/" + Games.out(x, 1), "1 3 5 7 9/");
        Games.touchRaid(x, 2);
        check.is("two of three come back", Games.mat(x, 0) + "/" + Games.out(x, 0), "0 2 6 8/4");
        check.is("nobody from the bench", Games.bench(x, 0) + " " + Games.bench(x, 1), "10 11");
    }

    private static void revivalsForRaiders(Check check) {
        Raidline x = Games.weakRaiders(5, 5, true);
        Games.touchRaid(x, 2);
        Games.emptyRaids(x, 1);
        x.raid(0);
        x.struggle(1);
        check.is("one for a raider who is caught", Games.out(x, 0) + "/" + Games.out(x, 1), "0/3");
        Raidline y = Games.strongRaiders(5, 5, true);
        Games.touchRaid(y, 2);
        Games.emptyRaids(y, 1);
        Games.breathlessRaid(y);
        check.is("one for a raider out of breath", Games.out(y, 0) + "/" + Games.out(y, 1), "0/3");
        Raidline z = Games.match(5, 5, 1, true, 10);
        Games.touchRaid(z, 3);
        for (int i = 0; i < 3; i++) {
            z.raid(7);
            z.bonus();
            z.comeBack();
            z.raid(0);
            check.is("a raid of the others", z.comeBack(), 0);
        }
        check.is("one for a raider out by do or die", Games.out(z, 0) + "/" + Games.out(z, 1), "0/3 5");
    }

    private static void revivalsForStepsOut(Check check) {
        Raidline x = Games.match(5, 5, 1, true, 10);
        Games.touchRaid(x, 3);
        x.raid(7);
        x.stepOut(0);
        x.stepOut(2);
        x.comeBack();
        check.is("two for two steps out", Games.out(x, 0) + "/" + Games.out(x, 1), "0 2/5");
        Raidline y = Games.weakRaiders(5, 5, true);
        y.raid(0);
        y.stepOut(1);
        y.struggle(1);
        check.is("the raider by a step out, the defender by the raider", Games.out(y, 0) + "/" + Games.out(y, 1), "/");
        Raidline z = Games.weakRaiders(5, 5, true);
        z.raid(0);
        z.stepOut(1);
        z.stepOut(9);
        z.struggle(1);
        check.is("who stepped out first", Games.out(z, 0) + "/" + Games.out(z, 1), "/9");
    }

    private static void emptyRaids(Check check) {
        check.by("Empty raids", "A raid without a point for either is empty.");
        Raidline x = Games.match(5, 5, 1, true, 10);
        Games.emptyRaids(x, 1);
        check.is("nothing at all", x.emptyShare(), 1.0f);
        x.raid(1);
        x.touch(0, true, false);
        x.comeBack();
        check.is("a touch that is not called", x.emptyShare(), 1.0f);
        Games.bonusRaids(x, 1);
        check.is("a bonus", x.emptyShare(), 2.0f / 3.0f);
        Games.touchRaid(x, 1);
        check.is("a touch", x.emptyShare(), 0.5f);
        x.raid(2);
        x.stepOut(1);
        x.comeBack();
        check.is("a step out", x.emptyShare(), 2.0f / 5.0f);
        Raidline y = Games.weakRaiders(3, 3, true);
        y.raid(0);
        y.struggle(1);
        check.is("a caught raider", y.emptyShare(), 0.0f);
        Raidline z = Games.strongRaiders(3, 3, true);
        Games.breathlessRaid(z);
        check.is("a raider out of breath", z.emptyShare(), 0.0f);
    }

    private static void twoEmptyRaids(Check check) {
        check.by("Empty raids", "Behind two empty raids of a squad, one behind the other,");
        check.by("Empty raids", "its next one is do or die:");
        Raidline x = Games.match(3, 3, 1, true, 10);
        check.is("behind none", Games.raid(x), false);
        x.comeBack();
        Games.bonusRaids(x, 1);
        check.is("behind one", Games.raid(x), false);
        x.comeBack();
        Games.bonusRaids(x, 1);
        check.is("behind two", Games.raid(x), true);
        Raidline y = Games.match(3, 3, 1, true, 10);
        Games.emptyRaids(y, 1);
        Games.bonusRaids(y, 3);
        Games.emptyRaids(y, 1);
        Games.bonusRaids(y, 1);
        check.is("behind two with another one between", Games.raid(y), false);
    }

    private static void eachSideByItself(Check check) {
        Raidline x = Games.match(3, 3, 1, true, 10);
        Games.emptyRaids(x, 4);
        check.is("two of the one", x.raid(0), true);
        x.bonus();
        x.comeBack();
        check.is("two of the other one", x.raid(1), true);
        x.bonus();
        x.comeBack();
        check.is("none of the one", x.raid(0), false);
        x.comeBack();
        check.is("none of the other one", x.raid(1), false);
        Raidline y = Games.match(3, 3, 1, true, 2);
        Games.emptyRaids(y, 4);
        y.begin(0, 1, true);
        check.is("a new match begins anew", y.raid(0), false);
        y.comeBack();
        check.is("for both", y.raid(1), false);
    }

    private static void overTheHalf(Check check) {
        check.by("Empty raids", "also over the end of a half,");
        Raidline x = Games.match(3, 3, 1, true, 2);
        Games.emptyRaids(x, 2);
        check.is("one in each half: the second one", Games.raid(x), false);
        x.comeBack();
        check.is("side 0 has one", Games.raid(x), false);
        Raidline y = Games.match(3, 3, 1, true, 4);
        Games.bonusRaids(y, 3);
        Games.emptyRaids(y, 1);
        Games.emptyRaids(y, 1);
        Games.bonusRaids(y, 1);
        check.is("one in each half, then", y.turn() + " " + Games.raid(y), "1 true");
        Raidline z = Games.squads(2, 3, 5, 5, 5);
        z.edition(3, 1, true, 2);
        z.begin(0, 1, true);
        Games.emptyRaids(z, 4);
        check.is("two ahead of the extra raids", Games.raid(z), true);
    }

    private static Supplier<Raidline> doOrDieRaid(boolean isRevived) {
        return Games.then(() -> Games.match(4, 4, 1, isRevived, 10), x -> {
            Games.emptyRaids(x, 4);
            x.raid(2);
        });
    }

    private static void doOrDie(Check check) {
        check.by("Empty raids", "if this one is empty, the raider is out, for 1 point.");
        Raidline x = doOrDieRaid(true).get();
        check.is("the return", x.comeBack(), 0);
        check.is("the raider is out", Games.mat(x, 0) + "/" + Games.out(x, 0), "0 4 6/2");
        check.is("1 point", Games.points(x), "0:1");
        Raidline y = doOrDieRaid(true).get();
        y.touch(1, true, false);
        y.comeBack();
        check.is("a touch that is not called", Games.points(y) + " " + Games.out(y, 0), "0:1 2");
        Raidline z = Games.match(3, 3, 1, true, 10);
        Games.emptyRaids(z, 5);
        check.is("1 point of 3 defenders, too", Games.points(z), "0:1");
    }

    private static void doOrDieThatIsNotEmpty(Check check) {
        Raidline x = doOrDieRaid(true).get();
        x.bonus();
        x.comeBack();
        check.is("a bonus", Games.points(x) + " " + Games.out(x, 0), "1:0 ");
        x = doOrDieRaid(true).get();
        x.touch(1, false, true);
        x.comeBack();
        check.is("a touch", Games.points(x) + " " + Games.out(x, 0), "1:0 ");
        x = doOrDieRaid(true).get();
        x.stepOut(1);
        x.comeBack();
        check.is("a step out", Games.points(x) + " " + Games.out(x, 0), "1:0 ");
    }

    private static void endOfTheCount(Check check) {
        check.by("Empty raids", "as a raid of the squad that is not empty does.");
        check.is("a bonus", isDoOrDieBehind(x -> x.bonus()), false);
        check.is("a touch", isDoOrDieBehind(x -> x.touch(x.matAt(1, 0), true, true)), false);
        check.is("a step out", isDoOrDieBehind(x -> x.stepOut(x.matAt(1, 0))), false);
        check.is("a raider who is caught", isDoOrDieBehind(x -> x.struggle(14)), false);
        check.is("nothing", isDoOrDieBehind(x -> { }), true);
    }

    /** Whether the third raid of side 0 is do or die, behind an empty one and one with this act. */
    private static boolean isDoOrDieBehind(java.util.function.Consumer<Raidline> act) {
        Raidline x = Games.match(5, 5, 1, true, 10);
        Games.emptyRaids(x, 1);
        Games.bonusRaids(x, 1);
        Games.raid(x);
        act.accept(x);
        if (x.raids() == 2) {
            x.comeBack();
        }
        Games.bonusRaids(x, 1);
        return Games.raid(x);
    }

    private static void endByDoOrDie(Check check) {
        check.by("Empty raids", "This ends the count,");
        Raidline x = Games.match(4, 4, 1, true, 20);
        Games.emptyRaids(x, 5);
        for (int i = 0; i < 2; i++) {
            Games.bonusRaids(x, 1);
            check.is("behind do or die and " + i, Games.raid(x), false);
            x.comeBack();
        }
        Games.bonusRaids(x, 1);
        check.is("behind do or die and two", Games.raid(x), true);
        Raidline y = Games.weakRaiders(4, 4, true);
        Games.emptyRaids(y, 4);
        Games.raid(y);
        y.struggle(1);
        Games.bonusRaids(y, 1);
        check.is("behind do or die with a caught raider", Games.raid(y), false);
        y.comeBack();
        Games.bonusRaids(y, 1);
        check.is("and one empty raid", Games.raid(y), false);
        y.comeBack();
        Games.bonusRaids(y, 1);
        check.is("and two", Games.raid(y), true);
    }

    private static void emptyAllTheSame(Check check) {
        check.by("Empty raids", "Such a do-or-die raid is an empty one all the same.");
        Raidline x = Games.match(4, 4, 1, true, 10);
        Games.emptyRaids(x, 4);
        Games.emptyRaids(x, 1);
        check.is("five of five", x.emptyShare(), 1.0f);
        Games.bonusRaids(x, 1);
        check.is("a do-or-die raid with a bonus", x.emptyShare(), 5.0f / 6.0f);
    }

    private static void allOut(Check check) {
        check.by("All out", "If nobody of a squad stands on the mat behind a raid, the other squad has 2 points,");
        Raidline x = Games.match(3, 3, 1, true, 10);
        Games.touchRaid(x, 2);
        check.is("one stands", Games.points(x) + " " + Games.mat(x, 1), "2:0 5");
        Raidline y = Games.match(3, 3, 1, true, 10);
        Games.touchRaid(y, 3);
        check.is("nobody stands", Games.points(y), "5:0");
        Raidline z = Games.match(3, 3, 1, true, 10);
        z.raid(0);
        z.stepOut(1);
        z.stepOut(5);
        z.stepOut(3);
        check.is("not within the raid", Games.points(z) + " " + Games.mat(z, 1), "3:0 ");
        z.comeBack();
        check.is("behind the raid", Games.points(z) + " " + Games.mat(z, 1), "5:0 1 3 5");
    }

    private static void allComeBack(Check check) {
        check.by("All out", "and all of it who are out come back;");
        for (int i = 0; i < 2; i++) {
            Raidline x = Games.match(5, 5, 1, i == 0, 10);
            Games.touchRaid(x, 3);
            Games.emptyRaids(x, 1);
            Games.touchRaid(x, 2);
            check.is("all five", Games.mat(x, 1) + "/" + Games.out(x, 1), "1 3 5 7 9/");
            check.is("three, two and two", Games.points(x), "7:0");
        }
        Raidline y = Games.match(5, 3, 1, true, 10);
        Games.touchRaid(y, 3);
        check.is("none from the bench", Games.mat(y, 1) + "/" + Games.bench(y, 1), "1 3 5/7 9");
    }

    private static void allOutOfRaiders(Check check) {
        Raidline x = Games.match(3, 3, 1, true, 10);
        Games.touchRaid(x, 2);
        x.raid(5);
        x.bonus();
        x.struggle(7);
        check.is("the last raider is caught", Games.points(x) + " " + Games.mat(x, 1), "6:1 1 3 5");
        Raidline y = Games.match(3, 3, 1, false, 20);
        Games.touchRaid(y, 2);
        y.raid(5);
        y.comeBack();
        y.raid(0);
        y.bonus();
        y.comeBack();
        y.raid(5);
        y.comeBack();
        y.raid(0);
        y.bonus();
        y.comeBack();
        check.is("do or die for the last one", y.raid(5), true);
        y.comeBack();
        check.is("1 point and 2", Games.points(y) + " " + Games.mat(y, 1), "7:0 1 3 5");
    }

    private static void bothAllOut(Check check) {
        Raidline x = Games.strongRaiders(3, 3, false);
        Games.touchRaid(x, 2);
        Games.touchRaid(x, 2);
        Games.struggles(x, 6);
        x.stepOut(5);
        check.is("out of breath behind a step out", x.comeBack(), 1);
        check.is("a step out and an all out, a super tackle and an all out", Games.points(x), "5:6");
        check.is("all are back", Games.mat(x, 0) + "/" + Games.mat(x, 1), "0 2 4/1 3 5");
        check.is("the points of that raid are in the mean", x.meanPoints(), 11.0 / 3.0);
    }

    /** There is always somebody who is out then: who has left the mat last. */
    private static void nobodyIsOut(Check check) {
        check.by("All out", "if nobody is, the match is over.");
        Raidline x = Games.match(3, 3, 1, false, 10);
        x.card(1, 'r');
        x.card(3, 'r');
        Games.touchRaid(x, 1);
        check.is("the last one comes back", Games.points(x) + " " + Games.mat(x, 1) + " " + x.goesOn(), "3:0 5 true");
        Games.emptyRaids(x, 1);
        x.raid(0);
        x.stepOut(5);
        x.comeBack();
        check.is("and once more", Games.points(x) + " " + Games.mat(x, 1) + " " + x.goesOn(), "6:0 5 true");
    }

    private static void outsAndPointsAlone(Check check) {
        check.by("Terms", "Who stands on the mat after each raid follows from the order of outs and points alone.");
        Raidline x = Games.strongRaiders(4, 4, true);
        x.raid(0);
        x.touch(3, true, true);
        x.touch(1, true, true);
        x.comeBack();
        Raidline y = Games.strongRaiders(4, 4, true);
        y.raid(6);
        y.struggle(3);
        y.comeBack();
        check.is("the same outs, the same mat", x.checksum(), y.checksum());
    }
}

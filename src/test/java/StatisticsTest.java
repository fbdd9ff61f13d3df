import java.util.function.Supplier;

/** "Statistics", and promises 30, 35 and 36: numbers of players, the share of empty raids, the mean points of a raid. */
final class StatisticsTest {
    private StatisticsTest() {
    }

    static void run(Check check) {
        numbersAtFirst(check);
        noSuchPlayer(check);
        noSuchLetter(check);
        raidPoints(check);
        bonusOfRaidersWhoAreOut(check);
        pointsOfStepsOut(check);
        tacklePoints(check);
        superTacklePoints(check);
        noTacklePoints(check);
        superRaids(check);
        noSuperRaids(check);
        raidsOfPlayers(check);
        overMatches(check);
        emptyShare(check);
        emptyShareInFloat(check);
        noShareYet(check);
        meanPoints(check);
        meanOfAllKinds(check);
        noMeanYet(check);
    }

    private static String numbers(Raidline x, int player) {
        return x.told(player, 'r') + " " + x.told(player, 't') + " " + x.told(player, 's') + " " + x.told(player, 'n');
    }

    private static void numbersAtFirst(Check check) {
        check.by("30", "Returns a number of a player over all matches.");
        check.by("30", "Returns the number.");
        check.by("30", "`what`: 'r' raid points, 't' tackle points, 's' super raids, 'n' raids");
        Raidline x = Games.ofSorts();
        check.is("at first", numbers(x, 0), "0 0 0 0");
        Raidline y = Games.match(6, 6, 1, true, 10);
        check.is("at the beginning", numbers(y, 11), "0 0 0 0");
        y.raid(0);
        y.bonus();
        y.touch(1, true, true);
        y.touch(3, true, true);
        y.touch(5, true, true);
        y.comeBack();
        y.raid(7);
        y.struggle(14);
        check.is("a raider", numbers(y, 0), "4 0 1 1");
        check.is("a tackler", numbers(y, 2), "0 1 0 0");
        check.is("a raider who is caught", numbers(y, 7), "0 0 0 1");
    }

    private static void noSuchPlayer(Check check) {
        check.by("30", "Throws `IndexOutOfBoundsException` if there is no such player");
        int[] players = {3, 40, -1, Integer.MIN_VALUE, Integer.MAX_VALUE};
        for (int player : players) {
            check.outOfBounds("told(" + player + ")", Games::ofSorts, x -> x.told(player, 'r'));
        }
        check.is("the last player", Games.ofSorts().told(2, 'n'), 0);
    }

    private static void noSuchLetter(Check check) {
        check.by("30", "Throws `IllegalArgumentException` if there is no such letter");
        char[] others = {'R', 'T', 'S', 'N', 'q', 'u', 'm', 'o', 'g', ' ', (char) 0, (char) 370, (char) 65535};
        for (char what : others) {
            check.illegalArgument("told " + (int) what, Games::ofSorts, x -> x.told(0, what));
        }
    }

    private static void raidPoints(Check check) {
        check.by("Statistics", "A player has points of raids, those of touches and bonuses,");
        Raidline x = Games.match(5, 5, 1, true, 10);
        x.raid(0);
        x.touch(1, true, true);
        x.touch(3, true, false);
        x.comeBack();
        check.is("a touch, and one that is not called", numbers(x, 0), "1 0 0 1");
        Games.bonusRaids(x, 1);
        check.is("a bonus", numbers(x, 3), "1 0 0 1");
        check.is("of the raider alone", numbers(x, 5), "0 0 0 0");
        x.raid(2);
        x.touch(5, true, true);
        x.bonus();
        x.comeBack();
        check.is("both", numbers(x, 2), "2 0 0 1");
        Raidline y = Games.strongRaiders(5, 5, true);
        y.raid(0);
        y.struggle(3);
        y.comeBack();
        check.is("two by a struggle", numbers(y, 0), "2 0 0 1");
        Raidline z = Games.match(3, 3, 1, true, 10);
        Games.touchRaid(z, 3);
        check.is("not those of an all out", numbers(z, 0), "3 0 1 1");
    }

    private static void bonusOfRaidersWhoAreOut(Check check) {
        check.by("Statistics", "the latter also if the raider is out.");
        Raidline x = Games.weakRaiders(4, 4, true);
        x.raid(2);
        x.touch(1, true, true);
        x.bonus();
        x.struggle(1);
        check.is("a raider who is caught", numbers(x, 2), "1 0 0 1");
        Raidline y = Games.strongRaiders(4, 4, true);
        y.raid(2);
        y.touch(1, true, true);
        y.touch(3, true, true);
        y.bonus();
        for (int i = 0; i < 5; i++) {
            y.struggle(1);
        }
        check.is("a raider out of breath", numbers(y, 2), "1 0 0 1");
    }

    private static void pointsOfStepsOut(Check check) {
        check.by("Statistics", "Points of steps out are nobody's.");
        Raidline x = Games.match(5, 5, 1, true, 10);
        x.raid(0);
        x.stepOut(1);
        x.touch(3, true, true);
        x.stepOut(3);
        x.comeBack();
        check.is("the raider", numbers(x, 0), "0 0 0 1");
        check.is("who stepped out", numbers(x, 1) + "/" + numbers(x, 3), "0 0 0 0/0 0 0 0");
        check.is("they are points", Games.points(x), "2:0");
    }

    private static void tacklePoints(Check check) {
        check.by("Statistics", "tackle points, for defenders who were in the struggle, each those that the squad got by that,");
        Raidline x = Games.match(5, 3, 3, 4, 5, 1, true, 10);
        x.raid(0);
        x.struggle(1);
        x.struggle(8 | 16);
        check.is("one of the struggle", numbers(x, 7), "0 1 0 0");
        check.is("another one of it", numbers(x, 9), "0 1 0 0");
        check.is("one of an earlier struggle", numbers(x, 1), "0 0 0 0");
        check.is("one of none", numbers(x, 3), "0 0 0 0");
        check.is("1 point of the squad", Games.points(x), "0:1");
        Raidline y = Games.weakRaiders(5, 4, true);
        y.raid(0);
        y.stepOut(1);
        y.struggle(7);
        check.is("three of a struggle", y.told(3, 't') + y.told(5, 't') + y.told(7, 't'), 3);
        check.is("not who stepped out", y.told(1, 't'), 0);
    }

    private static void superTacklePoints(Check check) {
        Raidline x = Games.weakRaiders(5, 3, true);
        x.raid(0);
        x.struggle(1 | 4);
        check.is("2 each", x.told(1, 't') + " " + x.told(3, 't') + " " + x.told(5, 't'), "2 0 2");
        Raidline y = Games.match(3, 3, 1, true, 10);
        Games.touchRaid(y, 2);
        y.raid(5);
        y.struggle(7);
        check.is("2 each, without those of the all out", y.told(0, 't') + " " + y.told(2, 't') + " " + y.told(4, 't'), "2 2 2");
        check.is("which come as well", Games.points(y), "6:0");
    }

    private static void noTacklePoints(Check check) {
        Raidline x = Games.strongRaiders(3, 3, true);
        Games.breathlessRaid(x);
        check.is("out of breath in a struggle", x.told(1, 't') + x.told(3, 't') + x.told(5, 't'), 0);
        Raidline y = Games.match(3, 3, 1, true, 10);
        Games.emptyRaids(y, 5);
        check.is("do or die", y.told(1, 't') + y.told(3, 't') + y.told(5, 't'), 0);
        check.is("its point is the squad's", Games.points(y), "0:1");
    }

    private static Raidline raidOf(int touches, boolean hasBonus, int steps) {
        Raidline game = Games.match(7, 7, 1, true, 10);
        game.raid(0);
        for (int i = 0; i < touches; i++) {
            game.touch(2 * i + 1, true, true);
        }
        if (hasBonus) {
            game.bonus();
        }
        for (int i = 0; i < steps; i++) {
            game.stepOut(13 - 2 * i);
        }
        game.comeBack();
        return game;
    }

    private static void superRaids(Check check) {
        check.by("Statistics", "and super raids, of 3 points or more by touches, as they were at the return, and bonus,");
        check.is("3 touches", numbers(raidOf(3, false, 0), 0), "3 0 1 1");
        check.is("2 touches and a bonus", numbers(raidOf(2, true, 0), 0), "3 0 1 1");
        check.is("4 touches", numbers(raidOf(4, false, 0), 0), "4 0 1 1");
        check.is("4 touches and a bonus", numbers(raidOf(4, true, 1), 0), "5 0 1 1");
        Raidline x = Games.strongRaiders(3, 3, true);
        x.raid(0);
        x.struggle(7);
        x.comeBack();
        check.is("3 touches by a struggle", numbers(x, 0), "3 0 1 1");
    }

    private static void noSuperRaids(Check check) {
        check.is("2 touches", numbers(raidOf(2, false, 0), 0), "2 0 0 1");
        check.is("a touch and a bonus", numbers(raidOf(1, true, 0), 0), "2 0 0 1");
        check.is("2 touches and 3 steps out", numbers(raidOf(2, false, 3), 0), "2 0 0 1");
        check.is("a touch, a bonus and a step out", numbers(raidOf(1, true, 1), 0), "2 0 0 1");
        Raidline x = Games.match(5, 5, 1, true, 10);
        x.raid(0);
        for (int i = 0; i < 5; i++) {
            x.touch(2 * i + 1, true, i < 2);
        }
        x.comeBack();
        check.is("5 touches, 2 of them called", numbers(x, 0), "2 0 0 1");
        Raidline y = Games.strongRaiders(5, 5, true);
        y.raid(0);
        y.bonus();
        for (int i = 0; i < 4; i++) {
            y.touch(2 * i + 1, true, true);
        }
        for (int i = 0; i < 3; i++) {
            y.struggle(1);
        }
        check.is("4 touches and a bonus, out of breath", numbers(y, 0), "1 0 0 1");
    }

    private static void raidsOfPlayers(Check check) {
        Raidline x = Games.weakRaiders(4, 4, true);
        Games.emptyRaids(x, 1);
        check.is("an empty raid", x.told(0, 'n'), 1);
        x.raid(3);
        x.struggle(1);
        check.is("a raid of one who is caught", x.told(3, 'n'), 1);
        Games.bonusRaids(x, 1);
        check.is("two raids", x.told(0, 'n'), 2);
        check.is("none", x.told(1, 'n') + x.told(2, 'n'), 0);
    }

    private static void overMatches(Check check) {
        Raidline x = Games.squads(3, 3, 5, 5, 5);
        x.edition(3, 1, true, 2);
        x.begin(0, 1, false);
        Games.bonusRaids(x, 4);
        x.begin(2, 0, false);
        Games.bonusRaids(x, 4);
        check.is("of two matches", numbers(x, 0), "4 0 0 4");
        check.is("of one match each", numbers(x, 1) + "/" + numbers(x, 2), "2 0 0 2/2 0 0 2");
        x.season();
        check.is("behind the season", numbers(x, 0), "4 0 0 4");
        Games.buy(x, 0, 1);
        check.is("in another squad", numbers(x, 0), "4 0 0 4");
    }

    private static void emptyShare(Check check) {
        check.by("35", "Returns the share of raids that were empty, over all matches.");
        Raidline x = Games.match(3, 3, 1, true, 2);
        Games.emptyRaids(x, 1);
        check.is("1 of 1", x.emptyShare(), 1.0f);
        Games.bonusRaids(x, 1);
        check.is("1 of 2", x.emptyShare(), 0.5f);
        Games.touchRaid(x, 1);
        Games.bonusRaids(x, 1);
        check.is("1 of 4", x.emptyShare(), 0.25f);
        x.begin(1, 0, false);
        check.is("in the next match", x.emptyShare(), 0.25f);
        Games.raid(x);
        check.is("a raid that goes on is not counted", x.emptyShare(), 0.25f);
        x.comeBack();
        check.is("2 of 5", x.emptyShare(), 0.4f);
        Raidline y = Games.match(3, 3, 1, true, 2);
        Games.bonusRaids(y, 3);
        check.is("0 of 3", y.emptyShare(), 0.0f);
    }

    private static void emptyShareInFloat(Check check) {
        check.by("35", "Returns their number divided by that of all, both converted to float.");
        Raidline x = Games.match(3, 3, 1, true, 10);
        Games.bonusRaids(x, 1);
        Games.emptyRaids(x, 2);
        check.is("2 of 3", x.emptyShare(), 2.0f / 3.0f);
        Games.bonusRaids(x, 4);
        check.is("2 of 7", x.emptyShare(), 2.0f / 7.0f);
        Games.emptyRaids(x, 2);
        check.is("4 of 9", x.emptyShare(), 4.0f / 9.0f);
        Games.bonusRaids(x, 2);
        check.is("4 of 11", x.emptyShare(), 4.0f / 11.0f);
    }

    private static void noShareYet(Check check) {
        check.by("35", "Throws `ArithmeticException` if there are none");
        Supplier<Raidline> match = () -> Games.match(3, 3, 1, true, 2);
        check.refused("the share of no raids", ArithmeticException.class, Raidline::new, Raidline::emptyShare);
        check.refused("the share ahead of the first raid", ArithmeticException.class, match, Raidline::emptyShare);
        check.refused("the share in the first raid", ArithmeticException.class, Games.then(match, Games::raid), Raidline::emptyShare);
    }

    private static void meanPoints(Check check) {
        check.by("36", "Returns the mean points of a raid, of both sides, over all matches.");
        Raidline x = Games.match(3, 3, 1, true, 2);
        Games.emptyRaids(x, 1);
        check.is("0 by 1", x.meanPoints(), 0.0);
        Games.bonusRaids(x, 1);
        check.is("1 by 2", x.meanPoints(), 0.5);
        Games.bonusRaids(x, 1);
        check.is("2 by 3", x.meanPoints(), 2.0 / 3.0);
        Games.emptyRaids(x, 1);
        x.begin(1, 0, false);
        check.is("in the next match", x.meanPoints(), 0.5);
        x.raid(1);
        x.bonus();
        check.is("a raid that goes on is not counted", x.meanPoints(), 0.5);
        x.comeBack();
        check.is("3 by 5", x.meanPoints(), 3.0 / 5.0);
    }

    private static void meanOfAllKinds(Check check) {
        check.by("36", "Returns the sum of points by raids, all outs too, divided by the number of raids, both converted to double.");
        Raidline x = Games.match(4, 4, 1, true, 10);
        Games.touchRaid(x, 4);
        check.is("4 and an all out", x.meanPoints(), 6.0);
        x.raid(1);
        x.stepOut(0);
        x.bonus();
        x.struggle(7);
        check.is("2 for the raiders and 1 for the defenders", x.meanPoints(), 9.0 / 2.0);
        Games.emptyRaids(x, 1);
        check.is("9 by 3", x.meanPoints(), 3.0);
        Raidline y = Games.match(4, 4, 1, true, 10);
        Games.emptyRaids(y, 4);
        Games.emptyRaids(y, 1);
        check.is("1 of do or die by 5", y.meanPoints(), 1.0 / 5.0);
        Games.bonusRaids(y, 2);
        check.is("3 by 7", y.meanPoints(), 3.0 / 7.0);
    }

    private static void noMeanYet(Check check) {
        check.by("36", "Throws `ArithmeticException` if there are none");
        Supplier<Raidline> match = () -> Games.match(3, 3, 1, true, 2);
        check.refused("the mean of no raids", ArithmeticException.class, Raidline::new, Raidline::meanPoints);
        check.refused("the mean ahead of the first raid", ArithmeticException.class, match, Raidline::meanPoints);
        check.refused("the mean in the first raid", ArithmeticException.class, Games.then(match, Games::raid), Raidline::meanPoints);
    }
}

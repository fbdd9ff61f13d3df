/** Promises 30, 35 and 36: numbers of players, the share of empty raids, and the mean points of a raid. */
final class StatisticsTest {
    private StatisticsTest() {
    }

    static void run(Check check) {
        order(check);
        raidPoints(check);
        pointsOfRaidersWhoAreOut(check);
        tacklePoints(check);
        superRaids(check);
        overMatches(check);
        shares(check);
        means(check);
    }

    private static String numbers(Raidline x, int player) {
        return x.told(player, 'r') + " " + x.told(player, 't') + " " + x.told(player, 's') + " " + x.told(player, 'n');
    }

    private static void order(Check check) {
        Raidline x = new Raidline();
        check.isOutOfBounds("no such player", () -> x.told(0, 'r'));
        check.isOutOfBounds("no such player, ahead of no such letter", () -> x.told(0, 'x'));
        x.player(5, 5, 5, 'a');
        check.is("at first", numbers(x, 0), "0 0 0 0");
        check.isOutOfBounds("told(-1)", () -> x.told(-1, 'r'));
        char[] wrong = {'R', 'x', (char) 0, 'q', 'g'};
        for (char what : wrong) {
            check.isIllegalArgument("told " + (int) what, () -> x.told(0, what));
        }
        check.isThrown("no raids", ArithmeticException.class, x::emptyShare);
        check.isThrown("no raids", ArithmeticException.class, x::meanPoints);
    }

    private static void raidPoints(Check check) {
        Raidline x = Games.match(5, 5, 1, true, 10);
        x.raid(0);
        x.bonus();
        x.touch(1, true, true);
        x.touch(3, true, false);
        x.stepOut(5);
        x.comeBack();
        check.is("a touch and a bonus, no step out", numbers(x, 0), "2 0 0 1");
        check.is("nothing for the touched", numbers(x, 1), "0 0 0 0");
        Games.emptyRaid(x);
        x.raid(0);
        x.stepOut(3);
        x.comeBack();
        check.is("one more raid", numbers(x, 0), "2 0 0 2");
        check.is("an empty one", numbers(x, 3), "0 0 0 1");
    }

    private static void pointsOfRaidersWhoAreOut(Check check) {
        Raidline x = Games.squads(2, 4, 1, 1, 9);
        x.edition(4, 1, true, 10);
        x.begin(0, 1, false);
        x.raid(2);
        x.touch(1, true, true);
        x.bonus();
        x.stepOut(7);
        x.struggle(1);
        check.is("the bonus also if the raider is caught", numbers(x, 2), "1 0 0 1");
        Raidline y = Games.squads(2, 4, 9, 6, 1);
        y.edition(4, 1, true, 10);
        y.begin(0, 1, false);
        y.raid(2);
        y.touch(1, true, true);
        y.touch(3, true, true);
        y.bonus();
        for (int i = 0; i < 4; i++) {
            y.struggle(1);
        }
        y.comeBack();
        check.is("and if out of breath, but no super raid", numbers(y, 2), "1 0 0 1");
    }

    private static void tacklePoints(Check check) {
        Raidline x = Games.squads(2, 4, 3, 3, 4);
        x.edition(4, 1, true, 10);
        x.begin(0, 1, false);
        x.raid(0);
        x.struggle(1);
        x.struggle(6);
        check.is("not those of an earlier struggle", numbers(x, 1), "0 0 0 0");
        check.is("each one", numbers(x, 3) + "/" + numbers(x, 5), "0 1 0 0/0 1 0 0");
        check.is("not the others", numbers(x, 7), "0 0 0 0");
        Raidline y = Games.match(3, 3, 1, true, 10);
        Games.touchRaid(y, 2);
        y.raid(5);
        y.struggle(7);
        check.is("a super tackle, without the all out", numbers(y, 0) + "/" + numbers(y, 4), "2 2 0 1/0 2 0 0");
        Raidline z = Games.match(3, 3, 1, true, 10);
        for (int i = 0; i < 5; i++) {
            Games.emptyRaid(z);
        }
        check.is("do or die is nobody's", numbers(z, 1), "0 0 0 2");
    }

    private static void superRaids(Check check) {
        Raidline x = Games.match(6, 6, 1, true, 10);
        x.raid(0);
        x.touch(1, true, true);
        x.touch(3, true, true);
        x.stepOut(5);
        x.comeBack();
        check.is("two touches and a step out", numbers(x, 0), "2 0 0 1");
        x.raid(7);
        x.touch(0, true, true);
        x.touch(2, true, true);
        x.bonus();
        x.comeBack();
        check.is("two touches and a bonus", numbers(x, 7), "3 0 1 1");
        x.raid(4);
        x.touch(7, true, true);
        x.touch(9, true, true);
        x.touch(11, true, true);
        x.comeBack();
        check.is("three touches", numbers(x, 4), "3 0 1 1");
    }

    private static void overMatches(Check check) {
        Raidline x = Games.squads(2, 3, 5, 5, 5);
        x.edition(3, 1, true, 2);
        for (int i = 0; i < 3; i++) {
            x.begin(0, 1, false);
            for (int j = 0; j < 4; j++) {
                Games.bonusRaid(x);
            }
        }
        check.is("over all matches", numbers(x, 0), "6 0 0 6");
        x.season();
        check.is("over seasons", numbers(x, 1), "6 0 0 6");
    }

    private static void shares(Check check) {
        Raidline x = Games.match(3, 3, 1, true, 10);
        x.raid(0);
        check.isThrown("no raid is over", ArithmeticException.class, x::emptyShare);
        x.comeBack();
        check.is("all", x.emptyShare(), 1.0f);
        Games.bonusRaid(x);
        check.is("one of two", x.emptyShare(), 0.5f);
        Games.emptyRaid(x);
        check.is("two of three, in floats", x.emptyShare(), 2.0f / 3.0f);
        x.raid(1);
        x.struggle(7);
        check.is("a caught raider is not empty", x.emptyShare(), 0.5f);
        x.raid(0);
        x.comeBack();
        check.is("do or die is empty all the same", x.emptyShare(), 3.0f / 5.0f);
        x.raid(3);
        x.stepOut(2);
        x.comeBack();
        check.is("a step out is not empty", x.emptyShare(), 0.5f);
    }

    private static void means(Check check) {
        Raidline x = Games.match(3, 3, 1, true, 10);
        Games.emptyRaid(x);
        check.is("nothing", x.meanPoints(), 0.0);
        Games.bonusRaid(x);
        check.is("one by two", x.meanPoints(), 0.5);
        x.raid(0);
        x.struggle(7);
        check.is("a super tackle", x.meanPoints(), 3.0 / 3.0);
        x.raid(1);
        x.stepOut(2);
        x.touch(4, true, true);
        x.comeBack();
        check.is("an all out too", x.meanPoints(), (3.0 + 2 + 2) / 4.0);
    }
}

/** Promises 32 to 34: the league and its champion. */
final class LeagueTest {
    private LeagueTest() {
    }

    static void run(Check check) {
        order(check);
        points(check);
        losses(check);
        places(check);
        draws(check);
        champions(check);
    }

    private static void order(Check check) {
        Raidline x = new Raidline();
        check.isOutOfBounds("league(0)", () -> x.league(0));
        check.isMissing("placed(0)", () -> x.placed(0));
        check.isUnsupported("no squads", x::champion);
        x.squad();
        x.squad();
        check.isUnsupported("two squads", x::champion);
        check.isOutOfBounds("league(2)", () -> x.league(2));
        check.isOutOfBounds("league(-1)", () -> x.league(-1));
        check.isMissing("placed(2)", () -> x.placed(2));
        check.isMissing("placed(-1)", () -> x.placed(-1));
        check.is("without matches, by numbers", x.placed(0) * 10 + x.placed(1), 1);
        x.squad();
        check.is("three squads", x.champion(), 0);
    }

    private static void play(Raidline x, int squad, int other, int bonusesOfOther) {
        x.begin(squad, other, false);
        int left = bonusesOfOther;
        while (x.goesOn()) {
            x.raid(x.matAt(x.turn(), 0));
            if (x.turn() == 1 && left > 0) {
                x.bonus();
                left--;
            } else if (x.turn() == 0) {
                x.touch(x.matAt(1, 0), false, false);
            }
            x.comeBack();
        }
    }

    private static void points(Check check) {
        Raidline x = Games.squads(3, 3, 5, 5, 5);
        x.edition(3, 1, true, 2);
        x.begin(1, 2, false);
        Games.bonusRaid(x);
        check.is("nothing while it goes on", x.league(1), 0);
        check.is("nor a place", x.placed(0), 0);
        for (int i = 1; i < 4; i++) {
            Games.emptyRaid(x);
        }
        check.is("a win", x.league(1), 5);
        check.is("a loss by 1", x.league(2), 1);
        check.is("none", x.league(0), 0);
        check.is("places", x.placed(0) * 100 + x.placed(1) * 10 + x.placed(2), 120);
        play(x, 0, 2, 0);
        check.is("a draw", x.league(0) * 10 + x.league(2), 34);
        check.is("places", x.placed(0) * 100 + x.placed(1) * 10 + x.placed(2), 120);
        x.season();
        check.is("an empty league", x.league(0) + x.league(1) + x.league(2), 0);
        check.is("with places by numbers", x.placed(0) * 100 + x.placed(1) * 10 + x.placed(2), 12);
    }

    private static void losses(Check check) {
        check.is("a loss by 7", lossBy(7), "1 5");
        check.is("a loss by 8", lossBy(8), "0 5");
        check.is("a loss by 9", lossBy(9), "0 5");
        check.is("a loss by 1", lossBy(1), "1 5");
    }

    /** Side 1 takes bonuses until it leads so; each side takes one where the raid is do or die. */
    private static String lossBy(int difference) {
        Raidline x = Games.squads(2, 7, 5, 5, 5);
        x.edition(7, 1, false, 20);
        x.begin(0, 1, false);
        while (x.goesOn()) {
            int side = x.turn();
            int lead = x.points(1) - x.points(0);
            boolean isDoOrDie = x.raid(x.matAt(side, 0));
            if (side == 1 && lead < difference || isDoOrDie) {
                x.bonus();
            }
            x.comeBack();
        }
        int lead = x.points(1) - x.points(0);
        return lead == difference ? x.league(0) + " " + x.league(1) : "lead " + lead;
    }

    private static void places(Check check) {
        Raidline x = Games.squads(4, 3, 5, 5, 5);
        x.edition(3, 1, true, 2);
        play(x, 0, 3, 1);
        play(x, 1, 2, 2);
        check.is("points, then differences", x.placed(0) * 10 + x.placed(1), 23);
        check.is("losses by 1 and 2", x.placed(2) * 10 + x.placed(3), 1);
        play(x, 2, 3, 1);
        check.is("10 and 6 points", x.league(3) * 100 + x.league(2), 1006);
        check.is("points first", x.placed(0), 3);
        check.isMissing("no fifth", () -> x.placed(4));
    }

    private static void draws(Check check) {
        Raidline x = Games.squads(4, 3, 5, 5, 5);
        x.edition(3, 1, true, 2);
        play(x, 3, 2, 0);
        check.is("draws, by numbers", x.placed(0) * 10 + x.placed(1), 23);
        check.is("without matches, by numbers", x.placed(2) * 10 + x.placed(3), 1);
    }

    private static Raidline ofStrengths(int... grips) {
        Raidline x = new Raidline();
        for (int i = 0; i < grips.length; i++) {
            x.squad();
            x.player(5, 5, grips[i], 'c');
            Games.buy(x, i, i);
        }
        return x;
    }

    private static void champions(Check check) {
        check.is("all alike: the best placed one", ofStrengths(5, 5, 5).champion(), 0);
        check.is("the second one", ofStrengths(5, 6, 5).champion(), 1);
        check.is("the third one", ofStrengths(5, 5, 6).champion(), 2);
        check.is("second and third alike", ofStrengths(5, 6, 6).champion(), 1);
        check.is("the first as strong as the winner", ofStrengths(6, 5, 6).champion(), 0);
        check.is("the fourth one is not in it", ofStrengths(5, 4, 4, 9).champion(), 0);
        Raidline x = ofStrengths(5, 5, 5);
        x.player(1, 1, 1, 'c');
        Games.buy(x, 3, 2);
        check.is("sums of all players", x.champion(), 2);
        x.season();
        check.is("without players, the best placed one", x.champion(), 0);
        Raidline y = Games.squads(4, 3, 5, 5, 5);
        y.edition(3, 1, true, 2);
        play(y, 0, 3, 1);
        check.is("by places: 3 ahead of 0, 1 and 2", y.champion(), 3);
        Raidline z = new Raidline();
        for (int i = 0; i < 3; i++) {
            z.squad();
            z.player(i == 0 ? 9 : 1, i == 1 ? 8 : 1, i == 2 ? 7 : 1, 'c');
            Games.buy(z, i, i);
        }
        check.is("reach, speed and grip", z.champion(), 0);
    }
}

import java.util.function.Supplier;

/** "League", and promises 32 to 34: the league and its champion. */
final class LeagueTest {
    private LeagueTest() {
    }

    static void run(Check check) {
        win(check);
        draw(check);
        losses(check);
        matchThatMustBeWon(check);
        reviewedMatch(check);
        untilTheSeasonEnds(check);
        noSuchSquad(check);
        orderByPoints(check);
        orderByDifferences(check);
        differencesAddUp(check);
        orderByNumbers(check);
        noSuchPlace(check);
        finalOfTwo(check);
        eliminator(check);
        likeStrengths(check);
        strengths(check);
        finalByPlaces(check);
        fewerThanThree(check);
    }

    /** Some squads of 3, each in reach of the other one. */
    private static Raidline squads(int count) {
        Raidline game = Games.squads(count, 3, 5, 5, 5);
        game.edition(3, 1, true, 2);
        return game;
    }

    /** A match in which each side takes some bonuses, 2 at most. */
    private static void play(Raidline x, int squad, int other, int bonuses, int bonusesOfOther) {
        x.begin(squad, other, false);
        int[] left = {bonuses, bonusesOfOther};
        while (x.goesOn()) {
            int side = x.turn();
            Games.raid(x);
            if (left[side] > 0) {
                x.bonus();
                left[side]--;
            }
            x.comeBack();
        }
    }

    private static String points(Raidline x, int squads) {
        StringBuilder line = new StringBuilder();
        for (int squad = 0; squad < squads; squad++) {
            line.append(squad == 0 ? "" : " ").append(x.league(squad));
        }
        return line.toString();
    }

    private static String places(Raidline x, int squads) {
        StringBuilder line = new StringBuilder();
        for (int place = 0; place < squads; place++) {
            line.append(place == 0 ? "" : " ").append(x.placed(place));
        }
        return line.toString();
    }

    private static void win(Check check) {
        check.by("League", "A match that is over brings 5 points for a win,");
        check.by("32", "Returns the points of a squad in the league.");
        check.by("32", "Returns the points.");
        Raidline x = squads(3);
        check.is("at first", points(x, 3), "0 0 0");
        x.begin(1, 2, false);
        Games.bonusRaids(x, 1);
        Games.emptyRaids(x, 2);
        check.is("while it goes on", points(x, 3), "0 0 0");
        Games.emptyRaids(x, 1);
        check.is("behind it", points(x, 3), "0 5 1");
        play(x, 0, 1, 0, 2);
        check.is("a win of the other squad", points(x, 3), "1 10 1");
    }

    private static void draw(Check check) {
        check.by("League", "3 for a draw,");
        Raidline x = squads(2);
        play(x, 0, 1, 0, 0);
        check.is("0:0", points(x, 2), "3 3");
        play(x, 1, 0, 2, 2);
        check.is("2:2", points(x, 2), "6 6");
    }

    /** Side 1 takes bonuses until it leads so; each side takes one where the raid is do or die. */
    private static String lossBy(int difference) {
        Raidline x = Games.squads(2, 7, 5, 5, 5);
        x.edition(7, 1, false, 20);
        x.begin(0, 1, false);
        while (x.goesOn()) {
            int side = x.turn();
            boolean isShort = x.points(1) - x.points(0) < difference;
            boolean isDoOrDie = Games.raid(x);
            if (side == 1 && isShort || isDoOrDie) {
                x.bonus();
            }
            x.comeBack();
        }
        int lead = x.points(1) - x.points(0);
        return lead == difference ? points(x, 2) : "a lead of " + lead;
    }

    private static void losses(Check check) {
        check.by("League", "1 for a loss by 7 or less,");
        check.is("a loss by 1", lossBy(1), "1 5");
        check.is("a loss by 6", lossBy(6), "1 5");
        check.is("a loss by 7", lossBy(7), "1 5");
        check.is("a loss by 8", lossBy(8), "0 5");
        check.is("a loss by 9", lossBy(9), "0 5");
    }

    private static void matchThatMustBeWon(Check check) {
        Raidline x = squads(2);
        x.begin(0, 1, true);
        Games.emptyRaids(x, 8);
        check.is("none behind the halves", points(x, 2), "0 0");
        Games.playOut(x);
        check.is("behind the golden raids", x.league(0) + x.league(1), 6);
    }

    private static void reviewedMatch(Check check) {
        Raidline x = squads(2);
        x.begin(0, 1, false);
        x.raid(0);
        x.touch(1, false, true);
        x.comeBack();
        x.review(1, 1);
        Games.bonusRaids(x, 1);
        Games.emptyRaids(x, 2);
        check.is("a point that was taken does not count", points(x, 2), "1 5");
    }

    private static void untilTheSeasonEnds(Check check) {
        check.by("League", "until the season ends.");
        Raidline x = squads(2);
        play(x, 0, 1, 0, 2);
        check.is("ahead of the end", points(x, 2) + ", " + places(x, 2), "1 5, 1 0");
        x.season();
        check.is("behind the end", points(x, 2) + ", " + places(x, 2), "0 0, 0 1");
        for (int i = 0; i < 6; i++) {
            Games.buy(x, i, i % 2);
        }
        play(x, 0, 1, 1, 0);
        check.is("the next season", points(x, 2) + ", " + places(x, 2), "5 1, 0 1");
    }

    private static void noSuchSquad(Check check) {
        check.by("32", "Throws `IndexOutOfBoundsException` if there is no such squad");
        int[] squads = {3, 4, -1, Integer.MIN_VALUE, Integer.MAX_VALUE};
        for (int squad : squads) {
            check.outOfBounds("league(" + squad + ")", Games::ofSorts, x -> x.league(squad));
        }
        check.is("the last squad", Games.ofSorts().league(2), 0);
    }

    private static void orderByPoints(Check check) {
        check.by("League", "Squads are ordered by points,");
        check.by("33", "Returns the squad at a place of the league.");
        check.by("33", "Returns the squad.");
        check.by("33", "`place`: the place, from 0");
        Raidline x = squads(4);
        play(x, 0, 3, 1, 2);
        check.is("a win, a loss, and none", points(x, 4) + ", " + places(x, 4), "1 0 0 5, 3 0 1 2");
        play(x, 1, 2, 0, 0);
        check.is("two draws", points(x, 4) + ", " + places(x, 4), "1 3 3 5, 3 1 2 0");
        Raidline y = squads(4);
        play(y, 0, 1, 0, 2);
        play(y, 0, 2, 0, 0);
        check.is("more points with a worse difference", points(y, 4) + ", " + places(y, 4), "4 5 3 0, 1 0 2 3");
    }

    private static void orderByDifferences(Check check) {
        check.by("League", "then by differences of points of matches,");
        Raidline x = squads(4);
        play(x, 0, 1, 1, 0);
        play(x, 3, 2, 2, 0);
        check.is("wins by 1 and 2, losses by 1 and 2", points(x, 4) + ", " + places(x, 4), "5 1 1 5, 3 0 1 2");
        Raidline y = squads(4);
        play(y, 0, 1, 0, 2);
        play(y, 2, 3, 0, 1);
        check.is("losses by 2 and 1", points(y, 4) + ", " + places(y, 4), "1 5 1 5, 1 3 2 0");
        Raidline z = squads(3);
        play(z, 2, 0, 2, 1);
        play(z, 1, 2, 1, 0);
        check.is("points ahead of a better difference", points(z, 3) + ", " + places(z, 3), "1 5 6, 2 1 0");
    }

    private static void differencesAddUp(Check check) {
        Raidline x = squads(4);
        play(x, 0, 2, 1, 0);
        play(x, 0, 2, 1, 0);
        play(x, 1, 3, 2, 0);
        play(x, 1, 3, 1, 0);
        check.is("1 and 1, 2 and 1", points(x, 4) + ", " + places(x, 4), "10 10 2 2, 1 0 2 3");
        play(x, 0, 2, 2, 0);
        play(x, 1, 3, 1, 0);
        check.is("4 and 4", points(x, 4) + ", " + places(x, 4), "15 15 3 3, 0 1 2 3");
    }

    private static void orderByNumbers(Check check) {
        check.by("League", "then by numbers.");
        check.is("without matches", places(squads(4), 4), "0 1 2 3");
        Raidline x = squads(4);
        play(x, 3, 2, 0, 0);
        check.is("two draws", places(x, 4), "2 3 0 1");
        Raidline y = squads(4);
        play(y, 3, 1, 2, 1);
        play(y, 2, 0, 2, 1);
        check.is("two wins and two losses by 1", places(y, 4), "2 3 0 1");
    }

    private static void noSuchPlace(Check check) {
        check.by("33", "Throws `NoSuchElementException` if there is none");
        for (int count = 1; count <= 4; count++) {
            int squads = count;
            Supplier<Raidline> start = Games.then(Raidline::new, x -> {
                for (int i = 0; i < squads; i++) {
                    x.squad();
                }
            });
            check.is("the last place of " + squads, start.get().placed(squads - 1), squads - 1);
            check.missing("one place behind " + squads, start, x -> x.placed(squads));
        }
        int[] places = {-1, 4, Integer.MIN_VALUE, Integer.MAX_VALUE};
        for (int place : places) {
            check.missing("placed(" + place + ")", Games::ofSorts, x -> x.placed(place));
        }
    }

    /** A squad for each player, with this grip. */
    private static Raidline ofGrips(int... grips) {
        Raidline game = new Raidline();
        for (int i = 0; i < grips.length; i++) {
            game.squad();
            Games.buy(game, game.player(5, 5, grips[i], 'c'), i);
        }
        return game;
    }

    private static void finalOfTwo(Check check) {
        check.by("League", "The final is of the first two:");
        check.by("34", "Returns who wins the final.");
        check.by("34", "Returns the squad.");
        check.is("the first one is stronger", ofGrips(6, 5, 4).champion(), 0);
        check.is("the second one is stronger", ofGrips(5, 6, 4).champion(), 1);
    }

    private static void eliminator(Check check) {
        check.by("League", "the winner of an eliminator of the second and third one, by strengths,");
        check.by("League", "meets the first one, likewise;");
        check.is("the third one is the strongest", ofGrips(5, 6, 7).champion(), 2);
        check.is("the second one is the strongest", ofGrips(5, 7, 6).champion(), 1);
        check.is("the first one is, then the third", ofGrips(7, 5, 6).champion(), 0);
        check.is("the fourth one is not in it", ofGrips(5, 4, 4, 9).champion(), 0);
        check.is("nor where the third one wins", ofGrips(5, 4, 6, 9).champion(), 2);
    }

    private static void likeStrengths(Check check) {
        check.by("League", "of like strengths the better placed one wins.");
        check.is("all alike", ofGrips(5, 5, 5).champion(), 0);
        check.is("the second like the third", ofGrips(5, 6, 6).champion(), 1);
        check.is("the first like the second", ofGrips(6, 6, 5).champion(), 0);
        check.is("the first like the third", ofGrips(6, 5, 6).champion(), 0);
        check.is("1 more of the third", ofGrips(5, 5, 6).champion(), 2);
    }

    private static void strengths(Check check) {
        check.by("League", "which are the sums of reaches, speeds and grips,");
        for (int strongest = 0; strongest < 3; strongest++) {
            for (int ability = 0; ability < 3; ability++) {
                Raidline x = new Raidline();
                for (int i = 0; i < 3; i++) {
                    int most = i == strongest ? 6 : 5;
                    x.squad();
                    int player = x.player(ability == 0 ? most : 5, ability == 1 ? most : 5, ability == 2 ? most : 5, 'c');
                    Games.buy(x, player, i);
                }
                check.is("1 more of ability " + ability, x.champion(), strongest);
            }
        }
        Raidline y = ofGrips(9, 5, 5);
        y.player(1, 1, 1, 'c');
        y.player(1, 1, 3, 'c');
        Games.buy(y, 3, 1);
        check.is("19 against 18", y.champion(), 0);
        Games.buy(y, 4, 2);
        check.is("20 against 19 and 18", y.champion(), 2);
        y.season();
        check.is("without players", y.champion(), 0);
        check.is("without any players", Games.then(Raidline::new, x -> {
            x.squad();
            x.squad();
            x.squad();
        }).get().champion(), 0);
    }

    private static void finalByPlaces(Check check) {
        Raidline x = squads(4);
        play(x, 0, 3, 0, 1);
        play(x, 1, 2, 0, 2);
        check.is("places", places(x, 4), "2 3 0 1");
        check.is("all alike, the first place wins", x.champion(), 2);
        Games.buy(x, x.player(1, 1, 1, 'c'), 3);
        check.is("the second place is stronger", x.champion(), 3);
        Games.buy(x, x.player(2, 1, 1, 'c'), 0);
        check.is("the third place is stronger", x.champion(), 0);
        Games.buy(x, x.player(9, 9, 9, 'c'), 1);
        check.is("the fourth place is not in it", x.champion(), 0);
    }

    private static void fewerThanThree(Check check) {
        check.by("34", "Throws `UnsupportedOperationException` if there are fewer than 3 squads");
        check.unsupported("no squads", Raidline::new, Raidline::champion);
        check.unsupported("1 squad", () -> squads(1), Raidline::champion);
        check.unsupported("2 squads", () -> squads(2), Raidline::champion);
        check.is("3 squads", squads(3).champion(), 0);
        check.is("4 squads", squads(4).champion(), 0);
    }
}

import java.util.function.Supplier;

/** "Auctions", and promises 6 and 10: matched bids and ends of seasons. */
final class SeasonTest {
    private SeasonTest() {
    }

    static void run(Check check) {
        matching(check);
        otherSquadsMayNot(check);
        noSuchSquad(check);
        nobodyIsUp(check);
        noBid(check);
        itsOwnBid(check);
        onceInAll(check);
        room(check);
        purse(check);
        nobodyIsUpAnyMore(check);
        lastSquad(check);
        whatOthersRemember(check);
        playersWhoLose(check);
        pursesAreFull(check);
        leagueIsEmpty(check);
        whileMatchGoesOn(check);
        whileOneIsUp(check);
    }

    /** Player 0 was in squad 1; the second season has begun. */
    private static Raidline second() {
        Raidline game = Games.ofSorts();
        Games.buy(game, 0, 1);
        game.season();
        return game;
    }

    /** Player 0, who was in squad 1, is put up, and squad 2 bids. */
    private static Supplier<Raidline> bidden(int price) {
        return Games.then(SeasonTest::second, x -> {
            x.putUp(0);
            x.bid(2, price);
        });
    }

    private static void matching(Check check) {
        check.by("6", "Matches the last bid for a player whom the squad had.");
        check.by("6", "Returns the price.");
        Raidline x = bidden(50).get();
        check.is("match", x.match(1), 50);
        Raidline y = bidden(50).get();
        y.bid(0, 61);
        check.is("match of the last bid", y.match(1), 61);
        check.is("the purse", y.purse(1), 139);
        check.is("the purses of bidders", y.purse(0) + y.purse(2), 400);
    }

    private static void otherSquadsMayNot(Check check) {
        check.by("6", "Throws `UnsupportedOperationException` if it did not have the player,");
        check.unsupported("match by another one", bidden(50), x -> x.match(0));
        check.unsupported("match by the bidder that had not the player", bidden(50), x -> x.match(2));
        check.unsupported("match for a player without a squad before", Games.then(SeasonTest::second, x -> {
            x.putUp(1);
            x.bid(2, 50);
        }), x -> x.match(1));
        check.unsupported("match in the first season", Games.then(Games::ofSorts, x -> {
            x.putUp(0);
            x.bid(2, 50);
        }), x -> x.match(1));
    }

    private static void noSuchSquad(Check check) {
        check.by("6", "Throws `IndexOutOfBoundsException` if there is no such squad");
        int[] squads = {3, 4, -1, Integer.MIN_VALUE, Integer.MAX_VALUE};
        for (int squad : squads) {
            check.outOfBounds("match(" + squad + ")", bidden(50), x -> x.match(squad));
        }
    }

    private static void nobodyIsUp(Check check) {
        check.by("6", "Throws `IllegalStateException` if nobody is put up,");
        check.illegalState("match for nobody", SeasonTest::second, x -> x.match(1));
        check.illegalState("match behind the end", Games.then(bidden(50), Raidline::knockDown), x -> x.match(1));
    }

    private static void noBid(Check check) {
        check.by("6", "or there is no bid");
        check.illegalState("match without a bid", Games.then(SeasonTest::second, x -> x.putUp(0)), x -> x.match(1));
        check.is("match of one bid", bidden(30).get().match(1), 30);
    }

    private static void itsOwnBid(Check check) {
        check.by("6", "has the last bid,");
        Supplier<Raidline> own = Games.then(bidden(50), x -> x.bid(1, 55));
        check.unsupported("match of its own bid", own, x -> x.match(1));
        Raidline y = own.get();
        y.bid(0, 60);
        check.is("match behind its own bid", y.match(1), 60);
    }

    /** Players 0 and 1 were in squad 1, which has matched for 0; player 1 is put up, and squad 2 bids. */
    private static Raidline matched() {
        Raidline game = Games.ofSorts();
        Games.buy(game, 0, 1);
        Games.buy(game, 1, 1);
        Games.buy(game, 2, 0);
        game.season();
        game.putUp(0);
        game.bid(2, 30);
        game.match(1);
        game.putUp(1);
        game.bid(2, 25);
        return game;
    }

    private static void onceInAll(Check check) {
        check.by("Auctions", "once in all,");
        check.by("6", "has matched once,");
        check.unsupported("match twice in a season", SeasonTest::matched, x -> x.match(1));
        check.unsupported("match twice over seasons", Games.then(SeasonTest::matched, x -> {
            x.knockDown();
            x.season();
            x.putUp(0);
            x.bid(2, 30);
        }), x -> x.match(1));
        Raidline y = matched();
        y.knockDown();
        y.putUp(2);
        y.bid(1, 10);
        check.is("once for each squad", y.match(0), 10);
    }

    /** Player 12 was in squad 0, which has some others now; squad 1 bids. */
    private static Raidline biddenBehind(int players) {
        Raidline game = new Raidline();
        game.squad();
        game.squad();
        for (int i = 0; i < 13; i++) {
            game.player(5, 5, 5, 'c');
        }
        Games.buy(game, 12, 0);
        game.season();
        for (int i = 0; i < players; i++) {
            Games.buy(game, i, 0);
        }
        game.putUp(12);
        game.bid(1, 10);
        return game;
    }

    private static void room(Check check) {
        check.by("6", "has 12 players,");
        check.is("match with 11 players", biddenBehind(11).match(0), 10);
        check.unsupported("match with 12 players", () -> biddenBehind(12), x -> x.match(0));
    }

    /** Squad 1 has 200 less 150, and had player 0; squad 2 bids. */
    private static Supplier<Raidline> biddenToThePoor(int price) {
        return Games.then(SeasonTest::second, x -> {
            x.putUp(1);
            x.bid(1, 150);
            x.knockDown();
            x.putUp(0);
            x.bid(2, price);
        });
    }

    private static void purse(Check check) {
        check.by("Auctions", "if it has the purse and room:");
        check.by("6", "or the price is above its purse");
        check.is("match for less than the purse", biddenToThePoor(49).get().match(1), 49);
        check.is("match for the whole purse", biddenToThePoor(50).get().match(1), 50);
        check.unsupported("match for 1 more than the purse", biddenToThePoor(51), x -> x.match(1));
        check.is("match for 200", bidden(200).get().match(1), 200);
    }

    private static void nobodyIsUpAnyMore(Check check) {
        check.by("Auctions", "it has the player then, and nobody is put up any more.");
        Supplier<Raidline> over = Games.then(bidden(50), x -> x.match(1));
        check.is("the player's squad", over.get().squadOf(0), 1);
        check.is("the purse", over.get().purse(1), 150);
        check.illegalState("a bid behind a match", over, x -> x.bid(0, 200));
        check.illegalState("knockDown behind a match", over, Raidline::knockDown);
        check.is("the next one can be put up", over.get().putUp(1), 20);
        check.is("the season can end", over.get().season(), 1);
    }

    private static void lastSquad(Check check) {
        check.by("Auctions", "The squad in which the player was when a season ended last, of those in which the player had one, may match the last bid,");
        Supplier<Raidline> later = Games.then(SeasonTest::second, x -> {
            Games.buy(x, 0, 2);
            x.season();
            x.putUp(0);
            x.bid(0, 40);
        });
        check.unsupported("match by the squad of an earlier season", later, x -> x.match(1));
        check.is("match by the squad of the last season", later.get().match(2), 40);
    }

    private static void whatOthersRemember(Check check) {
        check.by("Auctions", "those that were in one remember it, the others what they remembered,");
        Supplier<Raidline> unsold = Games.then(SeasonTest::second, x -> {
            x.season();
            x.season();
            x.putUp(0);
            x.bid(0, 40);
        });
        check.is("match behind seasons without a squad", unsold.get().match(1), 40);
        check.unsupported("match by another one behind them", unsold, x -> x.match(2));
        Raidline y = bidden(40).get();
        y.knockDown();
        y.season();
        y.putUp(0);
        y.bid(0, 40);
        check.is("match by the one of the season that has ended", y.match(2), 40);
    }

    private static void playersWhoLose(Check check) {
        check.by("Auctions", "At the end of a season all players are without squads,");
        check.by("10", "Ends the season.");
        check.by("10", "Returns how many players lost a squad.");
        Raidline x = Games.ofSorts();
        check.is("nobody", x.season(), 0);
        Games.buy(x, 0, 0);
        check.is("one", x.season(), 1);
        Games.buy(x, 0, 0);
        Games.buy(x, 1, 2);
        Games.buy(x, 2, 1);
        check.is("three", x.season(), 3);
        check.is("without squads", x.squadOf(0) + x.squadOf(1) + x.squadOf(2), -3);
        check.is("nobody once more", x.season(), 0);
    }

    private static void pursesAreFull(Check check) {
        check.by("Auctions", "purses are 200 again,");
        Raidline x = Games.ofSorts();
        x.putUp(0);
        x.bid(1, 200);
        x.knockDown();
        Games.buy(x, 1, 2);
        check.is("before", x.purse(0) + " " + x.purse(1) + " " + x.purse(2), "200 0 180");
        x.season();
        check.is("behind", x.purse(0) + " " + x.purse(1) + " " + x.purse(2), "200 200 200");
        check.is("and so it holds", x.isTrue(), true);
    }

    private static void leagueIsEmpty(Check check) {
        check.by("Auctions", "and the league is empty.");
        Raidline x = Games.squads(3, 3, 5, 5, 5);
        x.edition(3, 1, true, 2);
        x.begin(1, 2, false);
        Games.bonusRaids(x, 1);
        Games.playOut(x);
        check.is("before", x.league(0) + " " + x.league(1) + " " + x.league(2) + ", " + x.placed(0), "0 5 1, 1");
        x.season();
        check.is("behind", x.league(0) + " " + x.league(1) + " " + x.league(2) + ", " + x.placed(0), "0 0 0, 0");
        check.is("differences are none either", x.placed(1) + " " + x.placed(2), "1 2");
        check.is("the match that was last stays", x.raids() + " " + Games.points(x), "4 1:0");
    }

    private static void whileMatchGoesOn(Check check) {
        check.by("Auctions", "It is refused while a match goes on.");
        check.by("10", "Throws `IllegalStateException` if a match goes on,");
        check.illegalState("season in a match", () -> Games.match(3, 3, 1, true, 2), Raidline::season);
        check.illegalState("season in a raid", Games.then(() -> Games.match(3, 3, 1, true, 2), Games::raid), Raidline::season);
        Raidline y = Games.match(3, 3, 1, true, 2);
        Games.playOut(y);
        check.is("season behind the match", y.season(), 6);
    }

    private static void whileOneIsUp(Check check) {
        check.by("10", "or a player is put up");
        check.illegalState("season while one is up", Games.then(SeasonTest::second, x -> x.putUp(1)), Raidline::season);
        check.illegalState("season while one has a bid", bidden(50), Raidline::season);
        Raidline y = bidden(50).get();
        y.knockDown();
        check.is("season behind the end", y.season(), 1);
    }
}

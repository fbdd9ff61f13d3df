import java.util.function.Supplier;

/** "Auctions", and promises 4, 5 and 7 to 9: putting up, bids, knocking down, squads and purses. */
final class AuctionTest {
    private AuctionTest() {
    }

    static void run(Check check) {
        bases(check);
        noSuchPlayer(check);
        withSquad(check);
        whileMatchGoesOn(check);
        anotherOneIsUp(check);
        countOfBids(check);
        noSuchSquad(check);
        nobodyIsUp(check);
        firstBids(check);
        furtherBids(check);
        anotherSquad(check);
        fullSquad(check);
        wholePurse(check);
        smallPurse(check);
        knockingDown(check);
        unsold(check);
        nobodyToKnockDown(check);
        squadsOfPlayers(check);
        purses(check);
    }

    /** Squad 0 has the first players; the next one is put up. There is a squad 1, too. */
    static Raidline upBehind(int players) {
        Raidline game = new Raidline();
        game.squad();
        game.squad();
        for (int i = 0; i <= players; i++) {
            game.player(5, 5, 5, 'c');
        }
        for (int i = 0; i < players; i++) {
            Games.buy(game, i, 0);
        }
        game.putUp(players);
        return game;
    }

    private static Supplier<Raidline> up(int player) {
        return Games.then(Games::ofSorts, x -> x.putUp(player));
    }

    private static void bases(Check check) {
        check.by("4", "Puts a player up.");
        check.by("4", "Returns the base.");
        check.is("the base of an a", Games.ofSorts().putUp(0), 30);
        check.is("the base of a b", Games.ofSorts().putUp(1), 20);
        check.is("the base of a c", Games.ofSorts().putUp(2), 10);
    }

    private static void noSuchPlayer(Check check) {
        check.by("4", "Throws `IndexOutOfBoundsException` if there is no such player");
        check.is("putUp of the last player", Games.ofSorts().putUp(2), 10);
        int[] players = {3, -1, 40, Integer.MIN_VALUE, Integer.MAX_VALUE};
        for (int player : players) {
            check.outOfBounds("putUp(" + player + ")", Games::ofSorts, x -> x.putUp(player));
        }
    }

    private static void withSquad(Check check) {
        check.by("Auctions", "A player without a squad is put up;");
        check.by("4", "Throws `UnsupportedOperationException` if the player has a squad,");
        check.is("a player without a squad", Games.ofSorts().putUp(0), 30);
        check.unsupported("a player with a squad", Games.then(Games::ofSorts, x -> Games.buy(x, 0, 2)), x -> x.putUp(0));
        Raidline y = Games.ofSorts();
        Games.buy(y, 0, 2);
        y.season();
        check.is("a player who had a squad", y.putUp(0), 30);
    }

    private static Raidline matchWithFreePlayer() {
        Raidline game = Games.match(3, 3, 1, true, 2);
        game.player(5, 5, 5, 'b');
        return game;
    }

    private static void whileMatchGoesOn(Check check) {
        check.by("4", "or a match goes on");
        check.unsupported("putUp in a match", AuctionTest::matchWithFreePlayer, x -> x.putUp(6));
        check.unsupported("putUp in a raid", Games.then(AuctionTest::matchWithFreePlayer, Games::raid), x -> x.putUp(6));
        Raidline y = matchWithFreePlayer();
        Games.playOut(y);
        check.is("putUp behind the match", y.putUp(6), 20);
    }

    private static void anotherOneIsUp(Check check) {
        check.by("4", "Throws `IllegalStateException` if another one is put up");
        check.illegalState("putUp while another one is", up(0), x -> x.putUp(1));
        check.illegalState("putUp of the one who is", up(0), x -> x.putUp(0));
        Raidline y = up(0).get();
        y.knockDown();
        check.is("putUp behind an unsold one", y.putUp(1), 20);
        y.bid(0, 20);
        y.knockDown();
        check.is("putUp behind a sold one", y.putUp(2), 10);
    }

    private static void countOfBids(Check check) {
        check.by("5", "Bids.");
        check.by("5", "Returns how many bids there are.");
        Raidline x = up(0).get();
        check.is("the first bid", x.bid(0, 30), 1);
        check.is("the second bid", x.bid(1, 35), 2);
        check.is("the third bid", x.bid(0, 40), 3);
        x.knockDown();
        x.putUp(1);
        check.is("the first bid for the next one", x.bid(2, 20), 1);
    }

    private static void noSuchSquad(Check check) {
        check.by("5", "Throws `IndexOutOfBoundsException` if there is no such squad");
        check.is("a bid of the last squad", up(2).get().bid(2, 10), 1);
        int[] squads = {3, 4, -1, Integer.MIN_VALUE, Integer.MAX_VALUE};
        for (int squad : squads) {
            check.outOfBounds("a bid of squad " + squad, up(2), x -> x.bid(squad, 10));
        }
    }

    private static void nobodyIsUp(Check check) {
        check.by("5", "Throws `IllegalStateException` if nobody is put up");
        check.illegalState("a bid for nobody", Games::ofSorts, x -> x.bid(0, 30));
        check.illegalState("a bid behind the end", Games.then(up(0), Raidline::knockDown), x -> x.bid(0, 30));
        check.is("a bid for somebody", up(0).get().bid(0, 30), 1);
    }

    private static void firstBids(Check check) {
        check.by("Auctions", "the first bid is the base at least, 30, 20 or 10 by sorts,");
        check.by("5", "Throws `IllegalArgumentException` if the price is too low");
        for (int i = 0; i < 3; i++) {
            int base = 30 - 10 * i;
            check.is("a bid of the base " + base, up(i).get().bid(0, base), 1);
            check.is("1 above the base " + base, up(i).get().bid(0, base + 1), 1);
            check.illegalArgument("1 below the base " + base, up(i), x -> x.bid(0, base - 1));
        }
        int[] prices = {0, -1, -200, Integer.MIN_VALUE};
        for (int price : prices) {
            check.illegalArgument("a first bid of " + price, up(2), x -> x.bid(0, price));
        }
    }

    private static void furtherBids(Check check) {
        check.by("Auctions", "each further one at least 5 more than the one before,");
        Supplier<Raidline> first = Games.then(up(0), x -> x.bid(0, 50));
        check.is("5 more", first.get().bid(1, 55), 2);
        check.is("6 more", first.get().bid(1, 56), 2);
        check.is("many more", first.get().bid(1, 200), 2);
        int[] prices = {54, 51, 50, 49, 30, 29, 0, Integer.MIN_VALUE};
        for (int price : prices) {
            check.illegalArgument("a bid of " + price + " behind 50", first, x -> x.bid(1, price));
        }
        Supplier<Raidline> second = Games.then(first, x -> x.bid(1, 60));
        check.illegalArgument("5 more than the first one only", second, x -> x.bid(2, 64));
        check.is("5 more than the second one", second.get().bid(2, 65), 3);
    }

    private static void anotherSquad(Check check) {
        check.by("Auctions", "by another squad,");
        check.by("5", "Throws `UnsupportedOperationException` if the squad has the last bid,");
        Supplier<Raidline> first = Games.then(up(0), x -> x.bid(1, 30));
        check.unsupported("a bid against itself", first, x -> x.bid(1, 35));
        check.is("a bid against another one", first.get().bid(0, 35), 2);
        Raidline y = first.get();
        y.bid(2, 35);
        check.is("a bid against another one's bid between", y.bid(1, 40), 3);
        y.knockDown();
        y.putUp(1);
        check.is("the last bid for the one before is no bid", y.bid(1, 20), 1);
    }

    private static void fullSquad(Check check) {
        check.by("5", "has 12 players,");
        check.is("a bid with 11 players", upBehind(11).bid(0, 10), 1);
        check.unsupported("a bid with 12 players", () -> upBehind(12), x -> x.bid(0, 10));
        check.is("a bid of the other squad", upBehind(12).bid(1, 10), 1);
        Raidline y = upBehind(12);
        y.knockDown();
        y.season();
        y.putUp(12);
        check.is("a bid with 12 players in the season before", y.bid(0, 10), 1);
    }

    private static void wholePurse(Check check) {
        check.by("Auctions", "and no more than the purse.");
        check.by("5", "or the price is above its purse");
        check.is("a bid of 199", up(0).get().bid(0, 199), 1);
        check.is("a bid of 200", up(0).get().bid(0, 200), 1);
        int[] prices = {201, 1000, Integer.MAX_VALUE};
        for (int price : prices) {
            check.unsupported("a bid of " + price, up(0), x -> x.bid(0, price));
        }
        check.unsupported("5 more than the purse", Games.then(up(0), x -> x.bid(0, 200)), x -> x.bid(1, 205));
    }

    private static void smallPurse(Check check) {
        Supplier<Raidline> paid = Games.then(up(0), x -> {
            x.bid(1, 163);
            x.knockDown();
            x.putUp(1);
        });
        check.is("a bid of what is left", paid.get().bid(1, 37), 1);
        check.unsupported("1 more than what is left", paid, x -> x.bid(1, 38));
        check.is("a bid of the other one", paid.get().bid(0, 200), 1);
        Supplier<Raidline> poor = Games.then(up(0), x -> {
            x.bid(1, 200);
            x.knockDown();
            x.putUp(2);
        });
        check.unsupported("a bid with nothing left", poor, x -> x.bid(1, 10));
        check.is("the purse of 0", poor.get().purse(1), 0);
    }

    private static void knockingDown(Check check) {
        check.by("Auctions", "To knock down gives the player to the squad with the last bid, for that;");
        check.by("7", "Knocks the player down who is put up.");
        check.by("7", "Returns the squad,");
        Raidline x = up(1).get();
        x.bid(1, 20);
        x.bid(2, 44);
        check.is("not yet sold", x.squadOf(1), -1);
        check.is("not yet paid", x.purse(2), 200);
        check.is("knockDown", x.knockDown(), 2);
        check.is("the squad", x.squadOf(1), 2);
        check.is("the purse of the squad", x.purse(2), 156);
        check.is("the purse of the one before", x.purse(1), 200);
        check.is("the purse of one that did not bid", x.purse(0), 200);
        check.is("the others", x.squadOf(0) + x.squadOf(2), -2);
    }

    private static void unsold(Check check) {
        check.by("Auctions", "without a bid the player is unsold and can be put up again.");
        check.by("7", "-1 if the player is unsold.");
        Raidline x = up(1).get();
        check.is("knockDown without a bid", x.knockDown(), -1);
        check.is("the squad of an unsold one", x.squadOf(1), -1);
        check.is("the purses", x.purse(0) + x.purse(1) + x.purse(2), 600);
        check.is("put up again", x.putUp(1), 20);
        check.is("a first bid again", x.bid(0, 20), 1);
        check.is("sold then", x.knockDown(), 0);
        Raidline y = up(1).get();
        y.bid(0, 70);
        y.knockDown();
        y.putUp(0);
        check.is("unsold behind a sold one", y.knockDown(), -1);
        check.is("one purse is paid from once", y.purse(0), 130);
    }

    private static void nobodyToKnockDown(Check check) {
        check.by("7", "Throws `IllegalStateException` if nobody is put up");
        check.illegalState("knockDown of nobody", Games::ofSorts, Raidline::knockDown);
        check.illegalState("knockDown twice", Games.then(up(0), Raidline::knockDown), Raidline::knockDown);
        check.illegalState("knockDown in a match", () -> Games.match(3, 3, 1, true, 2), Raidline::knockDown);
    }

    private static void squadsOfPlayers(Check check) {
        check.by("8", "Returns the squad of a player.");
        check.by("8", "Returns the squad, -1 for none.");
        Raidline x = Games.ofSorts();
        check.is("no squad", x.squadOf(0), -1);
        Games.buy(x, 0, 2);
        Games.buy(x, 2, 0);
        check.is("squad 2", x.squadOf(0), 2);
        check.is("squad 0", x.squadOf(2), 0);
        check.is("no squad yet", x.squadOf(1), -1);
        check.by("8", "Throws `IndexOutOfBoundsException` if there is no such player");
        int[] players = {3, -1, 40, Integer.MIN_VALUE, Integer.MAX_VALUE};
        for (int player : players) {
            check.outOfBounds("squadOf(" + player + ")", Games::ofSorts, y -> y.squadOf(player));
        }
    }

    private static void purses(Check check) {
        check.by("9", "Returns the purse of a squad.");
        check.by("9", "Returns the purse.");
        Raidline x = Games.ofSorts();
        Games.buy(x, 0, 2);
        Games.buy(x, 1, 2);
        check.is("30 and 20 less", x.purse(2), 150);
        check.is("nothing less", x.purse(1), 200);
        check.by("9", "Throws `IndexOutOfBoundsException` if there is no such squad");
        int[] squads = {3, 4, -1, Integer.MIN_VALUE, Integer.MAX_VALUE};
        for (int squad : squads) {
            check.outOfBounds("purse(" + squad + ")", Games::ofSorts, y -> y.purse(squad));
        }
    }
}

/** Promises 4 to 10: auctions and seasons. */
final class AuctionTest {
    private AuctionTest() {
    }

    static void run(Check check) {
        puttingUp(check);
        bidding(check);
        limits(check);
        knockingDown(check);
        matching(check);
        rememberedSquads(check);
        matchingLimits(check);
        seasons(check);
        order(check);
    }

    private static Raidline three() {
        Raidline x = new Raidline();
        x.squad();
        x.squad();
        x.squad();
        x.player(5, 5, 5, 'a');
        x.player(5, 5, 5, 'b');
        x.player(5, 5, 5, 'c');
        return x;
    }

    private static void puttingUp(Check check) {
        Raidline x = three();
        check.isOutOfBounds("putUp(-1)", () -> x.putUp(-1));
        check.isOutOfBounds("putUp(3)", () -> x.putUp(3));
        check.is("base of a", x.putUp(0), 30);
        check.isIllegalState("putUp while another one is", () -> x.putUp(1));
        check.isIllegalState("putUp of the one who is", () -> x.putUp(0));
        x.knockDown();
        check.is("base of b", x.putUp(1), 20);
        x.knockDown();
        check.is("base of c", x.putUp(2), 10);
        x.bid(1, 10);
        x.knockDown();
        check.isUnsupported("putUp of one with a squad", () -> x.putUp(2));
        x.putUp(0);
        check.isUnsupported("with a squad, ahead of another one", () -> x.putUp(2));
        check.isOutOfBounds("no such player, ahead of another one", () -> x.putUp(9));
    }

    private static void bidding(Check check) {
        Raidline x = three();
        check.isIllegalState("bid without one put up", () -> x.bid(0, 30));
        check.isOutOfBounds("no such squad, ahead of nobody", () -> x.bid(3, 30));
        check.isOutOfBounds("bid(-1)", () -> x.bid(-1, 30));
        x.putUp(0);
        check.isIllegalArgument("below the base", () -> x.bid(0, 29));
        check.isIllegalArgument("far below the base", () -> x.bid(0, Integer.MIN_VALUE));
        check.is("the first bid", x.bid(0, 30), 1);
        check.isUnsupported("against itself", () -> x.bid(0, 35));
        check.isIllegalArgument("too low, ahead of against itself", () -> x.bid(0, 34));
        check.isIllegalArgument("4 more", () -> x.bid(1, 34));
        check.is("5 more", x.bid(1, 35), 2);
        check.is("many more", x.bid(0, 200), 3);
        check.isUnsupported("above the purse", () -> x.bid(1, 205));
        check.isUnsupported("far above the purse", () -> x.bid(1, Integer.MAX_VALUE));
        check.is("sold", x.knockDown(), 0);
        check.is("an empty purse", x.purse(0), 0);
        x.putUp(1);
        check.is("bids are counted anew", x.bid(2, 20), 1);
        check.isUnsupported("with an empty purse", () -> x.bid(0, 25));
        x.knockDown();
        check.is("180 are left", x.purse(2), 180);
        x.putUp(2);
        check.isUnsupported("1 above the purse", () -> x.bid(2, 181));
        check.is("the whole purse", x.bid(2, 180), 1);
    }

    private static void limits(Check check) {
        Raidline x = new Raidline();
        x.squad();
        x.squad();
        for (int i = 0; i < 13; i++) {
            x.player(5, 5, 5, 'c');
        }
        for (int i = 0; i < 12; i++) {
            check.is("base", x.putUp(i), 10);
            check.is("a bid", x.bid(0, 10), 1);
            check.is("sold", x.knockDown(), 0);
        }
        x.putUp(12);
        check.isUnsupported("a thirteenth player", () -> x.bid(0, 10));
        check.isIllegalArgument("too low, ahead of a thirteenth", () -> x.bid(0, 9));
        check.is("the other squad", x.bid(1, 10), 1);
        check.is("purse behind 12", x.purse(0), 80);
    }

    private static void knockingDown(Check check) {
        Raidline x = three();
        check.isIllegalState("knockDown without one put up", x::knockDown);
        x.putUp(1);
        check.is("unsold", x.knockDown(), -1);
        check.is("no squad", x.squadOf(1), -1);
        check.isIllegalState("knockDown once more", x::knockDown);
        check.is("up again", x.putUp(1), 20);
        x.bid(1, 20);
        x.bid(2, 44);
        check.is("not yet sold", x.squadOf(1), -1);
        check.is("not yet paid", x.purse(2), 200);
        check.is("sold to the last bid", x.knockDown(), 2);
        check.is("its squad", x.squadOf(1), 2);
        check.is("paid", x.purse(2), 156);
        check.is("not paid by the other one", x.purse(1), 200);
        check.isOutOfBounds("squadOf(3)", () -> x.squadOf(3));
        check.isOutOfBounds("squadOf(-1)", () -> x.squadOf(-1));
        check.isOutOfBounds("purse(3)", () -> x.purse(3));
        check.isOutOfBounds("purse(-1)", () -> x.purse(-1));
    }

    private static void matching(Check check) {
        Raidline x = three();
        check.isIllegalState("match without one put up", () -> x.match(0));
        check.isOutOfBounds("match(3)", () -> x.match(3));
        check.isOutOfBounds("match(-1)", () -> x.match(-1));
        Games.buy(x, 0, 1);
        Games.buy(x, 1, 1);
        x.season();
        x.putUp(0);
        check.isIllegalState("match without a bid", () -> x.match(1));
        x.bid(0, 50);
        check.isUnsupported("match by one that had not the player", () -> x.match(2));
        check.isUnsupported("match by the bidder", () -> x.match(0));
        check.is("match", x.match(1), 50);
        check.is("its squad", x.squadOf(0), 1);
        check.is("its purse", x.purse(1), 150);
        check.isIllegalState("nobody is up any more", x::knockDown);
        x.putUp(1);
        x.bid(2, 25);
        check.isUnsupported("match a second time", () -> x.match(1));
        x.knockDown();
        x.season();
        x.putUp(0);
        x.bid(2, 30);
        check.isUnsupported("match once in all, over seasons", () -> x.match(1));
    }

    private static void rememberedSquads(Check check) {
        Raidline x = three();
        Games.buy(x, 0, 1);
        x.season();
        x.season();
        x.putUp(0);
        x.bid(0, 40);
        check.is("remembered over a season without a squad", x.match(1), 40);
        Raidline y = three();
        Games.buy(y, 0, 1);
        y.season();
        Games.buy(y, 0, 2);
        y.season();
        y.putUp(0);
        y.bid(0, 40);
        check.isUnsupported("forgotten for a later squad", () -> y.match(1));
        check.is("the last one", y.match(2), 40);
        Raidline z = three();
        Games.buy(z, 0, 1);
        z.season();
        z.putUp(0);
        z.bid(1, 40);
        check.isUnsupported("match of its own bid", () -> z.match(1));
        z.bid(0, 45);
        z.bid(1, 50);
        z.bid(2, 55);
        check.is("match of a later bid", z.match(1), 55);
    }

    private static void matchingLimits(Check check) {
        Raidline x = three();
        Games.buy(x, 0, 1);
        x.season();
        x.putUp(1);
        x.bid(1, 190);
        x.knockDown();
        x.putUp(0);
        x.bid(0, 30);
        check.isUnsupported("match above the purse", () -> x.match(1));
        Raidline y = new Raidline();
        y.squad();
        y.squad();
        for (int i = 0; i < 13; i++) {
            y.player(5, 5, 5, 'c');
        }
        Games.buy(y, 12, 0);
        y.season();
        for (int i = 0; i < 12; i++) {
            Games.buy(y, i, 0);
        }
        y.putUp(12);
        y.bid(1, 10);
        check.isUnsupported("match without room", () -> y.match(0));
        check.is("sold to the other one", y.knockDown(), 1);
    }

    private static void seasons(Check check) {
        Raidline x = three();
        check.is("nobody had a squad", x.season(), 0);
        Games.buy(x, 0, 0);
        Games.buy(x, 2, 1);
        x.putUp(1);
        check.isIllegalState("while one is put up", x::season);
        x.knockDown();
        check.is("two had one", x.season(), 2);
        check.is("none then", x.squadOf(0) + x.squadOf(2), -2);
        check.is("purse 0", x.purse(0), 200);
        check.is("purse 1", x.purse(1), 200);
        Raidline y = Games.match(3, 3, 1, true, 2);
        check.isIllegalState("while a match goes on", y::season);
        for (int i = 0; i < 4; i++) {
            Games.touchRaid(y, 1);
        }
        check.is("the league before", y.league(0), 3);
        check.is("six had one", y.season(), 6);
        check.is("the league is empty", y.league(0) + y.league(1), 0);
    }

    private static void order(Check check) {
        Raidline x = Games.match(3, 3, 1, true, 2);
        x.player(5, 5, 5, 'a');
        check.isUnsupported("putUp while a match goes on", () -> x.putUp(6));
        check.isOutOfBounds("no such player, ahead of a match", () -> x.putUp(7));
        check.is("a squad can come while a match goes on", x.squad(), 2);
    }
}

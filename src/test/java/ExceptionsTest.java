import java.util.function.Supplier;

/** "Exceptions": of those that apply at once the first one is thrown, and each leaves all as it was. */
final class ExceptionsTest {
    private final Check check;

    private ExceptionsTest(Check check) {
        this.check = check;
    }

    static void run(Check check) {
        new ExceptionsTest(check).run();
    }

    private void run() {
        nothingChanges();
        check.by("Exceptions", "If several exceptions apply, the exception listed first is thrown.");
        players();
        puttingUp();
        bids();
        bidsThatAreTooLow();
        matchedBids();
        editions();
        begins();
        linesOfPlayers();
        raids();
        actsOutsideRaids();
        cards();
        substitutes();
        reviews();
        numbers();
    }

    /** Twice the same refused call, and then the one that is allowed, with the answer of the first time. */
    private void nothingChanges() {
        check.by("Exceptions", "A method that throws an exception changes nothing.");
        Raidline x = new Raidline();
        check.is("refused", Check.answerOf(() -> x.player(0, 5, 5, 'a')), "throws IllegalArgumentException");
        check.is("the number is still the first", x.player(5, 5, 5, 'a'), 0);
        x.squad();
        x.putUp(0);
        for (int i = 0; i < 2; i++) {
            check.is("refused", Check.answerOf(() -> x.bid(0, 201)), "throws UnsupportedOperationException");
        }
        check.is("the bid is still the first", x.bid(0, 30), 1);
        check.is("refused", Check.answerOf(() -> x.edition(3, 1, true, 3)), "throws IllegalArgumentException");
        check.is("the edition is still the first", x.edition(3, 1, true, 2), 7);
    }

    /** Two squads of 3, 6 is without a squad; the edition is for 3. */
    private static Raidline ready() {
        Raidline game = Games.squads(2, 3, 5, 5, 5);
        game.player(5, 5, 5, 'a');
        game.edition(3, 1, true, 10);
        return game;
    }

    private static Raidline match() {
        Raidline game = ready();
        game.begin(0, 1, false);
        return game;
    }

    private static Raidline raid() {
        Raidline game = match();
        game.raid(0);
        return game;
    }

    private static Raidline up() {
        Raidline game = ready();
        game.putUp(6);
        return game;
    }

    private void players() {
        Supplier<Raidline> full = Games.then(Raidline::new, x -> {
            for (int i = 0; i < 40; i++) {
                x.player(5, 5, 5, 'c');
            }
        });
        check.illegalArgument("player: out of range, ahead of 40", full, x -> x.player(10, 5, 5, 'a'));
        check.illegalArgument("player: no such sort, ahead of 40", full, x -> x.player(5, 5, 5, 'd'));
    }

    private void puttingUp() {
        check.outOfBounds("putUp: no such player, ahead of a match", ExceptionsTest::match, x -> x.putUp(7));
        check.outOfBounds("putUp: no such player, ahead of another one", ExceptionsTest::up, x -> x.putUp(7));
        check.unsupported("putUp: a squad, ahead of another one", ExceptionsTest::up, x -> x.putUp(0));
        check.unsupported("putUp: a squad and a match", ExceptionsTest::match, x -> x.putUp(0));
    }

    private void bids() {
        check.outOfBounds("bid: no such squad, ahead of nobody", ExceptionsTest::ready, x -> x.bid(2, 30));
        check.outOfBounds("bid: no such squad, ahead of a low price", ExceptionsTest::up, x -> x.bid(2, 29));
        check.outOfBounds("bid: no such squad, ahead of the purse", ExceptionsTest::up, x -> x.bid(-1, 201));
        check.illegalState("bid: nobody, ahead of a low price", ExceptionsTest::ready, x -> x.bid(0, -1));
        check.illegalState("bid: nobody, ahead of the purse", ExceptionsTest::ready, x -> x.bid(0, 201));
    }

    private void bidsThatAreTooLow() {
        check.illegalArgument("bid: too low, ahead of its own", Games.then(ExceptionsTest::up, x -> x.bid(0, 30)), x -> x.bid(0, 34));
        check.illegalArgument("bid: too low, ahead of 12 players", () -> AuctionTest.upBehind(12), x -> x.bid(0, 9));
        check.illegalState("bid: nobody, ahead of 12 players", Games.then(() -> AuctionTest.upBehind(12), Raidline::knockDown), x -> x.bid(0, 10));
        Supplier<Raidline> poor = Games.then(ExceptionsTest::up, x -> {
            x.bid(0, 170);
            x.knockDown();
            x.putUp(x.player(5, 5, 5, 'a'));
        });
        check.is("the purse that is left", poor.get().purse(0), 0);
        check.illegalArgument("bid: too low, ahead of the purse", poor, x -> x.bid(0, 29));
        check.unsupported("bid: the base, above the purse", poor, x -> x.bid(0, 30));
    }

    private void matchedBids() {
        check.outOfBounds("match: no such squad, ahead of nobody", ExceptionsTest::ready, x -> x.match(2));
        check.outOfBounds("match: no such squad, ahead of no bid", ExceptionsTest::up, x -> x.match(2));
        check.outOfBounds("match: no such squad, with a bid", Games.then(ExceptionsTest::up, x -> x.bid(0, 30)), x -> x.match(2));
        check.illegalState("match: nobody, ahead of not having had the player", ExceptionsTest::ready, x -> x.match(0));
        check.illegalState("match: no bid, ahead of not having had the player", ExceptionsTest::up, x -> x.match(0));
        check.illegalState("match: no bid, ahead of 12 players", () -> AuctionTest.upBehind(12), x -> x.match(0));
    }

    private void editions() {
        check.illegalArgument("edition: 2, ahead of a match", ExceptionsTest::match, x -> x.edition(2, 1, true, 2));
        check.illegalArgument("edition: from 8, ahead of a match", ExceptionsTest::match, x -> x.edition(3, 8, true, 2));
        check.illegalArgument("edition: 3 raids, ahead of a match", ExceptionsTest::match, x -> x.edition(3, 1, true, 3));
    }

    private void begins() {
        check.outOfBounds("begin: no such squads, ahead of the same", ExceptionsTest::ready, x -> x.begin(2, 2, false));
        check.outOfBounds("begin: no such squad, ahead of a match", ExceptionsTest::match, x -> x.begin(0, 2, false));
        check.outOfBounds("begin: no such squad, ahead of one who is up", ExceptionsTest::up, x -> x.begin(-1, 0, false));
        check.illegalArgument("begin: the same, ahead of too few", Games.then(ExceptionsTest::ready, Raidline::squad), x -> x.begin(2, 2, false));
        check.illegalArgument("begin: the same, ahead of a match", ExceptionsTest::match, x -> x.begin(0, 0, false));
        check.illegalArgument("begin: the same, ahead of one who is up", ExceptionsTest::up, x -> x.begin(1, 1, false));
        check.outOfBounds("begin: no such squad, ahead of too few", Games.then(ExceptionsTest::ready, Raidline::squad), x -> x.begin(2, 3, false));
        check.unsupported("begin: too few, ahead of a match", Games.then(ExceptionsTest::match, Raidline::squad), x -> x.begin(0, 2, false));
        check.unsupported("begin: too few of the first, ahead of a match", Games.then(ExceptionsTest::match, Raidline::squad), x -> x.begin(2, 1, false));
        check.unsupported("begin: too few, ahead of one who is up", Games.then(ExceptionsTest::up, Raidline::squad), x -> x.begin(0, 2, false));
    }

    private void linesOfPlayers() {
        check.illegalArgument("onMat: no such side, ahead of no match", ExceptionsTest::ready, x -> x.onMat(2));
        check.illegalArgument("matAt: no such side, ahead of no match", ExceptionsTest::ready, x -> x.matAt(2, 0));
        check.illegalArgument("outAt: no such side, ahead of no match", ExceptionsTest::ready, x -> x.outAt(-1, 0));
        check.illegalArgument("benchAt: no such side, ahead of no match", ExceptionsTest::ready, x -> x.benchAt(2, 0));
        check.illegalArgument("matAt: no such side, ahead of none", ExceptionsTest::match, x -> x.matAt(2, 99));
        check.illegalArgument("outAt: no such side, ahead of none", ExceptionsTest::match, x -> x.outAt(2, 0));
        check.illegalArgument("benchAt: no such side, ahead of none", ExceptionsTest::match, x -> x.benchAt(-1, 0));
        check.illegalState("matAt: no match, ahead of none", ExceptionsTest::ready, x -> x.matAt(0, 99));
        check.illegalState("outAt: no match, ahead of none", ExceptionsTest::ready, x -> x.outAt(0, -1));
        check.illegalState("benchAt: no match, ahead of none", ExceptionsTest::ready, x -> x.benchAt(1, 99));
    }

    private void raids() {
        check.outOfBounds("raid: no such player, ahead of no match", ExceptionsTest::ready, x -> x.raid(7));
        check.outOfBounds("raid: no such player, ahead of a raid", ExceptionsTest::raid, x -> x.raid(-1));
        check.illegalState("raid: no match, ahead of no mat", ExceptionsTest::ready, x -> x.raid(6));
        check.illegalState("raid: a raid, ahead of the other side", ExceptionsTest::raid, x -> x.raid(1));
        check.outOfBounds("touch: no such player, in a raid", ExceptionsTest::raid, x -> x.touch(7, true, true));
        check.unsupported("touch: out of breath and refused", Games.then(() -> Games.strongRaiders(3, 3, true), x -> Games.struggles(x, 6)),
            x -> x.touch(1, true, true));
    }

    private void actsOutsideRaids() {
        check.outOfBounds("touch: no such player, ahead of no raid", ExceptionsTest::match, x -> x.touch(7, true, true));
        check.illegalState("touch: no raid, ahead of no defender", ExceptionsTest::match, x -> x.touch(0, true, true));
        check.illegalState("bonus: no raid, ahead of too few", () -> Games.match(3, 3, 7, true, 2), Raidline::bonus);
        check.illegalState("bonus: no raid, ahead of a taken one", Games.then(ExceptionsTest::match, x -> Games.bonusRaids(x, 1)), Raidline::bonus);
        check.illegalState("struggle: no raid, ahead of none", ExceptionsTest::match, x -> x.struggle(0));
        check.illegalState("struggle: no raid, ahead of more than 3", ExceptionsTest::match, x -> x.struggle(15));
        check.illegalState("struggle: no match, ahead of such that there are not", Raidline::new, x -> x.struggle(-1));
        check.outOfBounds("stepOut: no such player, ahead of no raid", ExceptionsTest::match, x -> x.stepOut(7));
        check.illegalState("stepOut: no raid, ahead of no defender", ExceptionsTest::match, x -> x.stepOut(0));
    }

    private void cards() {
        check.outOfBounds("card: no such player, ahead of no such card", ExceptionsTest::match, x -> x.card(7, 'x'));
        check.outOfBounds("card: no such player, ahead of no match", ExceptionsTest::ready, x -> x.card(7, 'g'));
        check.outOfBounds("card: no such player, ahead of a raid", ExceptionsTest::raid, x -> x.card(-1, 'g'));
        check.illegalArgument("card: no such card, ahead of no match", ExceptionsTest::ready, x -> x.card(0, 'x'));
        check.illegalArgument("card: no such card, ahead of a raid", ExceptionsTest::raid, x -> x.card(0, 'x'));
        check.illegalArgument("card: no such card, ahead of neither mat nor out", ExceptionsTest::match, x -> x.card(6, 'x'));
        check.illegalState("card: no match, ahead of neither mat nor out", ExceptionsTest::ready, x -> x.card(6, 'g'));
        check.illegalState("card: a raid, ahead of neither mat nor out", ExceptionsTest::raid, x -> x.card(6, 'g'));
        Supplier<Raidline> last = Games.then(ExceptionsTest::match, x -> {
            x.card(0, 'r');
            x.card(2, 'r');
            x.raid(4);
        });
        check.illegalState("card: a raid, ahead of the last one", last, x -> x.card(4, 'y'));
    }

    private void substitutes() {
        check.outOfBounds("substitute: no such player, ahead of no match", ExceptionsTest::ready, x -> x.substitute(7, 0));
        check.outOfBounds("substitute: no other player, ahead of no match", ExceptionsTest::ready, x -> x.substitute(0, 7));
        check.outOfBounds("substitute: no other player, ahead of a raid", ExceptionsTest::raid, x -> x.substitute(0, -1));
        check.outOfBounds("substitute: no other player, ahead of not on the mat", ExceptionsTest::match, x -> x.substitute(6, 7));
        check.illegalState("substitute: no match, ahead of not on the mat", ExceptionsTest::ready, x -> x.substitute(6, 6));
        check.illegalState("substitute: a raid, ahead of not on the mat", ExceptionsTest::raid, x -> x.substitute(6, 6));
    }

    private void reviews() {
        check.outOfBounds("review: no such player, ahead of no such side", ExceptionsTest::match, x -> x.review(2, 7));
        check.outOfBounds("review: no such player, ahead of no match", ExceptionsTest::ready, x -> x.review(0, 7));
        check.outOfBounds("review: no such player, ahead of a raid", ExceptionsTest::raid, x -> x.review(0, -1));
        check.illegalArgument("review: no such side, ahead of no match", ExceptionsTest::ready, x -> x.review(2, 0));
        check.illegalArgument("review: no such side, ahead of a raid", ExceptionsTest::raid, x -> x.review(-1, 0));
        check.illegalArgument("review: no such side, ahead of not touched", Games.then(ExceptionsTest::raid, Raidline::comeBack), x -> x.review(2, 1));
        check.illegalState("review: no match, ahead of not touched", ExceptionsTest::ready, x -> x.review(0, 1));
        check.illegalState("review: a raid, ahead of not touched", ExceptionsTest::raid, x -> x.review(0, 1));
        check.illegalState("review: a caught raider, ahead of not touched", Games.then(ExceptionsTest::raid, x -> x.struggle(7)), x -> x.review(0, 1));
        Supplier<Raidline> lost = Games.then(ExceptionsTest::match, x -> {
            Games.touchRaid(x, 1);
            x.review(0, 1);
            x.raid(3);
            x.struggle(7);
        });
        check.illegalState("review: a caught raider, ahead of no review", lost, x -> x.review(0, 1));
    }

    private void numbers() {
        check.outOfBounds("told: no such player, ahead of no such letter", ExceptionsTest::ready, x -> x.told(7, 'x'));
        check.outOfBounds("told: no player at all", Raidline::new, x -> x.told(0, 'r'));
    }
}

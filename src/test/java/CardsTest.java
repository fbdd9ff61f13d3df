import java.util.function.Supplier;

/** "Cards", and promise 26. */
final class CardsTest {
    private CardsTest() {
    }

    static void run(Check check) {
        onTheMatOrOut(check);
        neitherOnTheMatNorOut(check);
        green(check);
        greenInEachMatch(check);
        yellow(check);
        yellowOverTheHalf(check);
        yellowTwice(check);
        red(check);
        neitherOnTheMat(check);
        behindAllOthers(check);
        aheadOfAllOut(check);
        afterRevivals(check);
        lastOne(check);
        lastOneGreen(check);
        noSuchPlayer(check);
        noSuchCard(check);
        betweenRaids(check);
    }

    private static Raidline match() {
        return Games.match(5, 4, 1, true, 10);
    }

    /** Player 1 is out. */
    private static Supplier<Raidline> oneIsOut() {
        return Games.then(CardsTest::match, x -> Games.touchRaid(x, 1));
    }

    private static void onTheMatOrOut(Check check) {
        check.by("Cards", "Between raids a player on the mat or out gets a card:");
        check.by("26", "Gives a card.");
        check.by("26", "Returns the card that counts.");
        check.by("26", "`card`: 'g', 'y' or 'r'");
        char[] cards = {'g', 'y', 'r'};
        for (char card : cards) {
            check.is("one on the mat of the raiders", match().card(0, card), card);
            check.is("one on the mat of the defenders", match().card(7, card), card);
            check.is("one who is out", oneIsOut().get().card(1, card), card);
        }
    }

    private static void neitherOnTheMatNorOut(Check check) {
        check.by("26", "Throws `UnsupportedOperationException` if the player is neither on the mat nor out,");
        check.unsupported("one on the bench", CardsTest::match, x -> x.card(8, 'g'));
        check.unsupported("one on the other bench", CardsTest::match, x -> x.card(9, 'r'));
        check.unsupported("one who sits out", Games.then(CardsTest::match, x -> x.card(2, 'y')), x -> x.card(2, 'g'));
        check.unsupported("one with a red card", Games.then(CardsTest::match, x -> x.card(2, 'r')), x -> x.card(2, 'y'));
        check.unsupported("one of no squad", Games.then(CardsTest::match, x -> x.player(5, 5, 5, 'c')), x -> x.card(10, 'g'));
        check.unsupported("one who went for a substitute", Games.then(CardsTest::match, x -> x.substitute(0, 8)), x -> x.card(0, 'g'));
        Supplier<Raidline> three = Games.then(() -> Games.squads(3, 3, 5, 5, 5), x -> {
            x.edition(3, 1, true, 2);
            x.begin(0, 1, false);
        });
        check.unsupported("one of a third squad", three, x -> x.card(2, 'g'));
    }

    private static void green(Check check) {
        check.by("Cards", "'g' green, which is yellow for the second time in a match,");
        Raidline x = match();
        check.is("the first green card", x.card(1, 'g'), 'g');
        check.is("nobody leaves", Games.mat(x, 1), "1 3 5 7");
        check.is("the first one of another player", x.card(3, 'g'), 'g');
        check.is("the second green card", x.card(1, 'g'), 'y');
        check.is("who leaves", Games.mat(x, 1) + "/" + Games.out(x, 1), "3 5 7/");
        Games.bonusRaids(x, 3);
        check.is("behind 3 raids", Games.out(x, 1), "");
        Games.bonusRaids(x, 1);
        check.is("behind 4 raids", Games.out(x, 1), "1");
        Raidline y = match();
        y.card(1, 'y');
        Games.bonusRaids(y, 4);
        check.is("green behind yellow", y.card(1, 'g'), 'g');
        check.is("yellow behind green", y.card(3, 'g') + " " + y.card(3, 'y'), "g y");
        Raidline z = match();
        z.card(0, 'g');
        z.substitute(0, 8);
        z.substitute(8, 0);
        check.is("the second one behind a time on the bench", z.card(0, 'g'), 'y');
        Games.bonusRaids(z, 4);
        check.is("the third one is yellow, too", z.card(0, 'g') + Games.out(z, 0), "y");
    }

    private static void greenInEachMatch(Check check) {
        Raidline x = Games.match(3, 3, 1, true, 2);
        x.card(0, 'g');
        Games.playOut(x);
        x.begin(0, 1, false);
        check.is("green in the next match", x.card(0, 'g'), 'g');
        check.is("and yellow then", x.card(0, 'g'), 'y');
    }

    private static void yellow(Check check) {
        check.by("Cards", "'y' yellow, by which the player sits out the next 4 raids, those of both squads counted,");
        for (int player = 0; player < 2; player++) {
            Raidline x = match();
            check.is("yellow", x.card(player, 'y'), 'y');
            for (int i = 0; i < 4; i++) {
                check.is("behind " + i + " raids", Games.out(x, player), "");
                check.is("on the mat", x.onMat(player), 3);
                Games.bonusRaids(x, 1);
            }
            check.is("behind 4 raids", Games.out(x, player), String.valueOf(player));
            check.is("not on the mat", x.onMat(player), 3);
        }
    }

    private static void yellowOverTheHalf(Check check) {
        Raidline x = Games.match(4, 4, 1, true, 2);
        Games.bonusRaids(x, 1);
        x.card(0, 'y');
        Games.bonusRaids(x, 3);
        x.begin(0, 1, false);
        check.is("the next match begins anew", Games.mat(x, 0), "0 2 4 6");
        Games.bonusRaids(x, 1);
        check.is("also behind a raid", Games.mat(x, 0) + "/" + Games.out(x, 0), "0 2 4 6/");
        check.is("each is in one place", x.isTrue(), true);
        Raidline y = Games.match(4, 4, 1, true, 4);
        Games.bonusRaids(y, 2);
        y.card(1, 'y');
        Games.bonusRaids(y, 3);
        check.is("over the half, 3 raids", Games.out(y, 1), "");
        Games.bonusRaids(y, 1);
        check.is("over the half, 4 raids", Games.out(y, 1), "1");
    }

    private static void yellowTwice(Check check) {
        Raidline x = match();
        x.card(1, 'y');
        Games.bonusRaids(x, 4);
        check.is("yellow for one who is out", x.card(1, 'y'), 'y');
        for (int i = 0; i < 4; i++) {
            check.is("sits out once more", Games.out(x, 1), "");
            Games.bonusRaids(x, 1);
        }
        check.is("out once more", Games.out(x, 1), "1");
    }

    private static void red(Check check) {
        check.by("Cards", "'r' red, by which for the match.");
        Raidline x = Games.match(3, 3, 1, true, 20);
        check.is("red", x.card(1, 'r'), 'r');
        for (int i = 0; i < 40; i++) {
            check.is("behind " + i + " raids", Games.mat(x, 1) + "/" + Games.out(x, 1), "3 5/");
            Games.bonusRaids(x, i < 39 ? 1 : 0);
        }
        Raidline y = Games.match(3, 3, 1, true, 2);
        y.card(1, 'r');
        Games.playOut(y);
        y.begin(0, 1, false);
        check.is("in the next match", Games.mat(y, 1), "1 3 5");
    }

    private static void neitherOnTheMat(Check check) {
        check.by("Cards", "Who sits out is neither on the mat nor out;");
        Raidline x = Games.match(5, 4, 1, true, 10);
        Games.touchRaid(x, 2);
        x.card(1, 'y');
        x.card(5, 'y');
        check.is("one was out, one on the mat", Games.mat(x, 1) + "/" + Games.out(x, 1) + "/" + Games.bench(x, 1), "7/3/9");
        Games.touchRaid(x, 2);
        check.is("who sits out is not revived", Games.mat(x, 1) + "/" + Games.out(x, 1), "3 7/");
        Games.touchRaid(x, 2);
        check.is("nor does an all out bring one back", Games.mat(x, 1) + "/" + Games.out(x, 1), "3 7/");
        check.is("each is in one place", x.isTrue(), true);
    }

    private static void behindAllOthers(Check check) {
        check.by("Cards", "behind the 4 raids the player is out, behind all others,");
        Raidline x = Games.match(5, 5, 1, true, 10);
        Games.touchRaid(x, 1);
        Games.bonusRaids(x, 1);
        x.card(3, 'y');
        Games.touchRaid(x, 1);
        Games.bonusRaids(x, 3);
        check.is("behind those who were out", Games.out(x, 1), "1 5 3");
        Raidline y = Games.match(5, 5, 1, true, 10);
        Games.bonusRaids(y, 1);
        y.card(3, 'y');
        Games.bonusRaids(y, 3);
        Games.touchRaid(y, 2);
        check.is("behind those of the same raid", Games.out(y, 1), "1 5 3");
        Raidline z = Games.match(5, 5, 1, false, 10);
        z.card(5, 'y');
        z.card(1, 'y');
        Games.bonusRaids(z, 1);
        z.card(3, 'y');
        Games.bonusRaids(z, 4);
        check.is("by rising numbers, a later one behind", Games.out(z, 1), "1 5 3");
    }

    private static void aheadOfAllOut(Check check) {
        check.by("Cards", "ahead of looking for an all out.");
        Raidline x = Games.match(3, 3, 1, false, 10);
        Games.bonusRaids(x, 1);
        x.card(3, 'y');
        Games.bonusRaids(x, 3);
        Games.touchRaid(x, 2);
        check.is("behind the fourth raid", Games.mat(x, 1) + "/" + Games.points(x), "1 3 5/6:2");
        Raidline y = Games.match(3, 3, 1, false, 10);
        y.card(3, 'y');
        Games.bonusRaids(y, 2);
        Games.touchRaid(y, 2);
        check.is("behind the third raid", Games.mat(y, 1) + "/" + Games.points(y), "1 5/5:1");
        Games.bonusRaids(y, 1);
        check.is("one more raid", Games.out(y, 1), "3");
    }

    private static void afterRevivals(Check check) {
        Raidline x = Games.match(5, 5, 1, true, 10);
        x.card(0, 'y');
        Games.bonusRaids(x, 3);
        x.raid(1);
        x.struggle(7);
        check.is("an out of the fourth raid does not bring one back", Games.out(x, 0), "0");
        x.raid(2);
        x.stepOut(3);
        x.comeBack();
        check.is("an out of the fifth one does", Games.out(x, 0), "");
    }

    private static Supplier<Raidline> twoStand() {
        return Games.then(() -> Games.match(3, 3, 1, true, 10), x -> x.card(0, 'r'));
    }

    private static Supplier<Raidline> oneStands() {
        return Games.then(twoStand(), x -> x.card(2, 'r'));
    }

    private static void lastOne(Check check) {
        check.by("Cards", "No yellow or red card is given to the last one on the mat.");
        check.by("26", "or it is the last one on the mat of a side");
        check.is("yellow for one of two", twoStand().get().card(2, 'y'), 'y');
        check.is("red for one of two", twoStand().get().card(4, 'r'), 'r');
        check.unsupported("yellow for the last one", oneStands(), x -> x.card(4, 'y'));
        check.unsupported("red for the last one", oneStands(), x -> x.card(4, 'r'));
        check.is("one of the other side", oneStands().get().card(1, 'r'), 'r');
        Supplier<Raidline> out = Games.then(() -> Games.match(3, 3, 1, true, 10), x -> Games.touchRaid(x, 2));
        check.is("yellow for one who is out", out.get().card(1, 'y'), 'y');
        check.is("red for one who is out", out.get().card(3, 'r'), 'r');
        check.unsupported("yellow for the only one on the mat", out, x -> x.card(5, 'y'));
    }

    private static void lastOneGreen(Check check) {
        check.is("green for the last one", oneStands().get().card(4, 'g'), 'g');
        Supplier<Raidline> green = Games.then(oneStands(), x -> x.card(4, 'g'));
        check.unsupported("green that is yellow for the last one", green, x -> x.card(4, 'g'));
        Supplier<Raidline> two = Games.then(twoStand(), x -> x.card(4, 'g'));
        check.is("green that is yellow for one of two", two.get().card(4, 'g'), 'y');
    }

    private static void noSuchPlayer(Check check) {
        check.by("26", "Throws `IndexOutOfBoundsException` if there is no such player");
        int[] players = {10, 40, -1, Integer.MIN_VALUE, Integer.MAX_VALUE};
        for (int player : players) {
            check.outOfBounds("card(" + player + ")", CardsTest::match, x -> x.card(player, 'g'));
        }
    }

    private static void noSuchCard(Check check) {
        check.by("26", "Throws `IllegalArgumentException` if there is no such card");
        char[] others = {'f', 'h', 'q', 's', 'x', 'z', 'G', 'Y', 'R', 'a', ' ', (char) 0, (char) 359, (char) 65535};
        for (char card : others) {
            check.illegalArgument("card " + (int) card, CardsTest::match, x -> x.card(0, card));
        }
    }

    private static void betweenRaids(Check check) {
        check.by("26", "Throws `IllegalStateException` if no match goes on, or a raid does");
        check.illegalState("a card without a match", () -> Games.squads(2, 3, 5, 5, 5), x -> x.card(0, 'g'));
        check.illegalState("a card behind a match", Games.then(CardsTest::match, Games::playOut), x -> x.card(0, 'g'));
        Supplier<Raidline> raid = Games.then(CardsTest::match, x -> x.raid(0));
        check.illegalState("a card in a raid", raid, x -> x.card(1, 'y'));
        check.illegalState("a card for the raider", raid, x -> x.card(0, 'g'));
        check.is("a card ahead of the first raid", match().card(0, 'g'), 'g');
        check.is("a card behind a raid", Games.then(raid, Raidline::comeBack).get().card(0, 'g'), 'g');
    }
}

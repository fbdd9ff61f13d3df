/** Promises 37 and 38: the checksum, and that all of it holds. */
final class SumsTest {
    private SumsTest() {
    }

    static void run(Check check) {
        checksumAtFirst(check);
        checksumOfMat(check);
        checksumOfOut(check);
        checksumOfNeither(check);
        checksumOfSidesInOrder(check);
        checksumOfTheLastMatch(check);
        checksumBeyondInt(check);
        trueAtFirst(check);
        trueInMatch(check);
        trueBehindAuctions(check);
        trueBehindValues(check);
    }

    private static long sum(long... numbers) {
        long sum = 7;
        for (long number : numbers) {
            sum = 31 * sum + number;
        }
        return sum;
    }

    /** There are no sides before the first match, so nothing comes behind the 7. */
    private static void checksumAtFirst(Check check) {
        check.by("37", "Returns a sum over the match that goes on, or was last.");
        check.by("37", "Returns 7 at first,");
        check.is("of a new object", new Raidline().checksum(), 7L);
        Raidline x = Games.squads(2, 3, 5, 5, 5);
        check.is("with squads and players", x.checksum(), 7L);
        check.is("a match that is refused", Check.answerOf(() -> x.begin(0, 1, false)), "throws UnsupportedOperationException");
        check.is("behind it", x.checksum(), 7L);
        x.season();
        check.is("behind a season without a match", x.checksum(), 7L);
    }

    private static void checksumOfMat(Check check) {
        check.by("37", "then for both sides 31 times itself plus the points, then for each player on the mat 31 times itself plus the number,");
        Raidline x = Games.match(4, 3, 1, true, 10);
        check.is("at the beginning", x.checksum(), sum(0, 0, 2, 4, 0, 1, 3, 5));
        Games.bonusRaids(x, 1);
        check.is("with points", x.checksum(), sum(1, 0, 2, 4, 0, 1, 3, 5));
        Games.bonusRaids(x, 1);
        check.is("with points of both", x.checksum(), sum(1, 0, 2, 4, 1, 1, 3, 5));
    }

    private static void checksumOfOut(Check check) {
        check.by("37", "and for each who is out 31 times itself plus the number and 100.");
        Raidline x = Games.match(4, 3, 1, true, 10);
        x.raid(2);
        x.stepOut(3);
        check.is("in a raid", x.checksum(), sum(1, 0, 2, 4, 0, 1, 5, 103));
        x.touch(1, true, true);
        x.comeBack();
        check.is("in the order of outs", x.checksum(), sum(2, 0, 2, 4, 0, 5, 103, 101));
        Games.touchRaid(x, 1);
        check.is("on both sides", x.checksum(), sum(2, 2, 4, 100, 1, 3, 5, 101));
    }

    private static void checksumOfNeither(Check check) {
        Raidline x = Games.match(5, 4, 1, true, 10);
        Games.touchRaid(x, 1);
        x.card(1, 'y');
        x.card(0, 'r');
        check.is("not who sits out", x.checksum(), sum(1, 2, 4, 6, 0, 3, 5, 7));
        x.substitute(4, 8);
        check.is("not the bench", x.checksum(), sum(1, 2, 6, 8, 0, 3, 5, 7));
        Games.bonusRaids(x, 4);
        check.is("who has sat out is out", x.checksum(), sum(3, 2, 6, 8, 2, 3, 5, 7, 101));
    }

    private static void checksumOfSidesInOrder(Check check) {
        Raidline x = Games.squads(2, 3, 5, 5, 5);
        x.edition(3, 1, true, 2);
        x.begin(1, 0, false);
        Games.bonusRaids(x, 1);
        check.is("the first squad of the match first", x.checksum(), sum(1, 1, 3, 5, 0, 0, 2, 4));
    }

    private static void checksumOfTheLastMatch(Check check) {
        Raidline x = Games.match(3, 3, 1, true, 2);
        Games.touchRaid(x, 1);
        Games.emptyRaids(x, 3);
        check.is("behind the match", x.goesOn() + " " + x.checksum(), "false " + sum(1, 0, 2, 4, 0, 3, 5, 101));
        x.season();
        check.is("behind the season", x.checksum(), sum(1, 0, 2, 4, 0, 3, 5, 101));
    }

    private static void checksumBeyondInt(Check check) {
        Raidline x = Games.match(7, 7, 1, true, 2);
        check.is("16 numbers wrap around in long", x.checksum(), sum(0, 0, 2, 4, 6, 8, 10, 12, 0, 1, 3, 5, 7, 9, 11, 13));
    }

    private static void trueAtFirst(Check check) {
        check.by("38", "Returns whether all of it holds.");
        check.is("a new object", new Raidline().isTrue(), true);
        check.is("with squads and players", Games.ofSorts().isTrue(), true);
    }

    private static void trueInMatch(Check check) {
        check.by("38", "Checks that each player of a match is in one place, on the mat, out, sitting out or on the bench;");
        Raidline x = Games.match(6, 4, 1, true, 10);
        check.is("at the beginning", x.isTrue(), true);
        x.player(5, 5, 5, 'a');
        check.is("with one of no squad", x.isTrue(), true);
        x.card(0, 'r');
        x.card(1, 'y');
        x.substitute(2, 8);
        check.is("with cards and substitutes", x.isTrue(), true);
        x.raid(4);
        x.stepOut(3);
        check.is("in a raid", x.isTrue(), true);
        x.touch(5, true, false);
        x.touch(7, false, true);
        x.comeBack();
        check.is("behind a raid", x.isTrue(), true);
        check.is("behind reviews", x.review(1, 7) + " " + x.review(0, 5) + " " + x.isTrue(), "true true true");
        Games.bonusRaids(x, 4);
        check.is("behind a yellow card", x.isTrue(), true);
        Games.playOut(x);
        check.is("behind the match", x.isTrue(), true);
        x.season();
        check.is("behind the season", x.isTrue(), true);
    }

    private static void trueBehindAuctions(Check check) {
        check.by("38", "that nobody has more than one squad; that purses are what was not paid;");
        Raidline x = Games.ofSorts();
        x.putUp(0);
        check.is("one is up", x.isTrue(), true);
        x.bid(1, 200);
        check.is("one bid", x.isTrue(), true);
        x.knockDown();
        check.is("a purse of 0", x.isTrue(), true);
        x.season();
        check.is("behind a season", x.isTrue(), true);
        x.putUp(0);
        x.bid(2, 77);
        x.match(1);
        check.is("a matched bid", x.isTrue(), true);
        Games.buy(x, 1, 1);
        Games.buy(x, 2, 0);
        check.is("all are sold", x.isTrue(), true);
    }

    private static void trueBehindValues(Check check) {
        check.by("38", "and that values are those solved backward.");
        Raidline x = new Raidline();
        int[][] states = {{3, 2, 1, 0, 12, 31, 17}, {1, 1, 2, 2, 0, 0, 100}, {7, 7, 0, 0, 1, 100, 0}, {4, 5, 2, 1, 7, 0, 0}};
        for (int[] s : states) {
            double value = x.value(s[0], s[1], s[2], s[3], s[4], s[5], s[6]);
            check.is("behind a value", x.isTrue(), true);
            check.is("the value behind it", x.value(s[0], s[1], s[2], s[3], s[4], s[5], s[6]), value);
        }
    }
}

/** Promises 37 and 38: the checksum, and that all of it holds. */
final class SumsTest {
    private SumsTest() {
    }

    static void run(Check check) {
        checksumWithoutMatch(check);
        checksums(check);
        checksumOfTheLastMatch(check);
        truths(check);
    }

    private static long sum(long... numbers) {
        long sum = 7;
        for (long number : numbers) {
            sum = 31 * sum + number;
        }
        return sum;
    }

    /** There are no sides before the first match, so nothing comes behind the 7. */
    private static void checksumWithoutMatch(Check check) {
        check.is("of a new object", new Raidline().checksum(), 7L);
        Raidline x = Games.squads(2, 3, 5, 5, 5);
        check.is("with squads and players", x.checksum(), 7L);
        check.isIllegalArgument("a match of one squad", () -> x.begin(0, 0, false));
        check.isUnsupported("a match of too few players", () -> x.begin(0, 1, false));
        check.is("behind matches that are refused", x.checksum(), 7L);
        x.season();
        check.is("behind a season without a match", x.checksum(), 7L);
    }

    private static void checksums(Check check) {
        Raidline x = Games.match(4, 3, 1, true, 10);
        check.is("at the beginning", x.checksum(), sum(0, 0, 2, 4, 0, 1, 3, 5));
        x.raid(2);
        x.stepOut(3);
        check.is("in a raid", x.checksum(), sum(1, 0, 2, 4, 0, 1, 5, 103));
        x.touch(1, true, true);
        x.comeBack();
        check.is("in the order of outs", x.checksum(), sum(2, 0, 2, 4, 0, 5, 103, 101));
        x.card(3, 'y');
        check.is("not who sits out", x.checksum(), sum(2, 0, 2, 4, 0, 5, 101));
        x.substitute(4, 6);
        check.is("not the bench", x.checksum(), sum(2, 0, 2, 6, 0, 5, 101));
    }

    private static void checksumOfTheLastMatch(Check check) {
        Raidline x = Games.match(3, 3, 1, true, 2);
        Games.touchRaid(x, 1);
        for (int i = 1; i < 4; i++) {
            Games.emptyRaid(x);
        }
        check.is("of the last match", x.checksum(), sum(1, 0, 2, 4, 0, 3, 5, 101));
        x.season();
        check.is("also behind the season", x.checksum(), sum(1, 0, 2, 4, 0, 3, 5, 101));
    }

    private static void truths(Check check) {
        check.is("a new object", new Raidline().isTrue(), true);
        Raidline x = Games.match(5, 4, 1, true, 10);
        check.is("at the beginning", x.isTrue(), true);
        x.card(0, 'r');
        x.card(1, 'y');
        x.substitute(2, 8);
        check.is("with cards and substitutes", x.isTrue(), true);
        x.raid(4);
        x.stepOut(3);
        check.is("in a raid", x.isTrue(), true);
        x.touch(5, true, true);
        x.comeBack();
        check.is("behind it", x.isTrue(), true);
        x.value(3, 2, 1, 0, 12, 31, 17);
        check.is("behind a value", x.isTrue(), true);
        x.value(1, 1, 2, 2, 0, 0, 100);
        check.is("behind a value", x.isTrue(), true);
        check.is("a value behind it", x.value(7, 1, 0, 0, 1, 100, 0), 3.0);
    }
}

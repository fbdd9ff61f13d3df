import java.util.function.Supplier;

/** "Substitutes", and promise 27. */
final class SubstitutesTest {
    private SubstitutesTest() {
    }

    static void run(Check check) {
        fromTheBench(check);
        behindTheOthers(check);
        atMostFive(check);
        fiveForEach(check);
        whoGoes(check);
        whoComes(check);
        noSuchPlayer(check);
        betweenRaids(check);
    }

    private static Raidline match() {
        return Games.match(5, 3, 1, true, 10);
    }

    private static void fromTheBench(Check check) {
        check.by("Substitutes", "Between raids a squad puts a player from the bench in the place of one on the mat,");
        check.by("27", "Substitutes a player.");
        check.by("27", "Returns how often the squad did in this match.");
        Raidline x = match();
        check.is("once", x.substitute(2, 8), 1);
        check.is("the mat", Games.mat(x, 0), "0 4 8");
        check.is("twice", x.substitute(8, 6), 2);
        check.is("the mat", Games.mat(x, 0), "0 4 6");
        check.is("nobody is out", Games.out(x, 0), "");
        check.is("the other squad, while this one raids", x.substitute(1, 9), 1);
        check.is("the other mat", Games.mat(x, 1), "3 5 9");
    }

    private static void behindTheOthers(Check check) {
        check.by("Substitutes", "who goes is on the bench then, behind the others.");
        Raidline x = match();
        x.substitute(0, 6);
        check.is("behind 8", Games.bench(x, 0), "8 0");
        x.substitute(2, 8);
        check.is("behind 0", Games.bench(x, 0), "0 2");
        x.substitute(6, 0);
        check.is("behind 2", Games.bench(x, 0), "2 6");
        check.is("the mat", Games.mat(x, 0), "0 4 8");
        x.substitute(4, 2);
        check.is("one who comes a second time goes behind, too", Games.bench(x, 0), "6 4");
        Raidline y = Games.match(4, 3, 1, true, 10);
        y.substitute(0, 6);
        check.is("alone on the bench", Games.bench(y, 0), "0");
    }

    private static Supplier<Raidline> changed(int times) {
        return Games.then(SubstitutesTest::match, x -> {
            for (int i = 0; i < times; i++) {
                x.substitute(i % 2 == 0 ? 0 : 6, i % 2 == 0 ? 6 : 0);
            }
        });
    }

    private static void atMostFive(Check check) {
        check.by("Substitutes", "at most 5 times in a match;");
        check.by("27", "or the squad did 5 times");
        check.is("the fifth time", changed(4).get().substitute(0, 6), 5);
        check.unsupported("the sixth time", changed(5), x -> x.substitute(6, 0));
        check.unsupported("another one for the sixth time", changed(5), x -> x.substitute(2, 8));
    }

    private static void fiveForEach(Check check) {
        check.is("the other squad's first time", changed(5).get().substitute(1, 7), 1);
        Raidline x = Games.match(4, 3, 1, true, 2);
        for (int i = 0; i < 5; i++) {
            x.substitute(i % 2 == 0 ? 0 : 6, i % 2 == 0 ? 6 : 0);
        }
        Games.playOut(x);
        x.begin(0, 1, false);
        check.is("the next match begins anew", x.substitute(0, 6), 1);
    }

    private static void whoGoes(Check check) {
        check.by("27", "Throws `UnsupportedOperationException` if the first one is not on the mat,");
        check.unsupported("one on the bench goes", SubstitutesTest::match, x -> x.substitute(6, 8));
        check.unsupported("one who is out goes", Games.then(SubstitutesTest::match, x -> Games.touchRaid(x, 1)), x -> x.substitute(1, 7));
        check.unsupported("one who sits out goes", Games.then(SubstitutesTest::match, x -> x.card(0, 'y')), x -> x.substitute(0, 6));
        check.unsupported("one with a red card goes", Games.then(SubstitutesTest::match, x -> x.card(0, 'r')), x -> x.substitute(0, 6));
        check.unsupported("one of no squad goes", Games.then(SubstitutesTest::match, x -> x.player(5, 5, 5, 'c')), x -> x.substitute(10, 6));
    }

    private static void whoComes(Check check) {
        check.by("27", "or the other one not on the bench of that squad,");
        check.unsupported("one on the mat comes", SubstitutesTest::match, x -> x.substitute(0, 2));
        check.unsupported("the same one comes", SubstitutesTest::match, x -> x.substitute(0, 0));
        check.unsupported("one of the other bench comes", SubstitutesTest::match, x -> x.substitute(0, 7));
        check.unsupported("one of the other mat comes", SubstitutesTest::match, x -> x.substitute(0, 1));
        check.unsupported("one who is out comes", Games.then(SubstitutesTest::match, x -> Games.touchRaid(x, 1)), x -> x.substitute(3, 1));
        check.unsupported("one who sits out comes", Games.then(SubstitutesTest::match, x -> x.card(0, 'y')), x -> x.substitute(2, 0));
        check.unsupported("nobody is on the bench", () -> Games.match(3, 3, 1, true, 2), x -> x.substitute(0, 2));
        check.unsupported("one of no squad comes", Games.then(SubstitutesTest::match, x -> x.player(5, 5, 5, 'c')), x -> x.substitute(0, 10));
    }

    private static void noSuchPlayer(Check check) {
        check.by("27", "Throws `IndexOutOfBoundsException` if there is no such player, for either");
        int[] players = {10, 40, -1, Integer.MIN_VALUE, Integer.MAX_VALUE};
        for (int player : players) {
            check.outOfBounds("substitute(" + player + ", 6)", SubstitutesTest::match, x -> x.substitute(player, 6));
            check.outOfBounds("substitute(0, " + player + ")", SubstitutesTest::match, x -> x.substitute(0, player));
        }
    }

    private static void betweenRaids(Check check) {
        check.by("27", "Throws `IllegalStateException` if no match goes on, or a raid does");
        check.illegalState("without a match", () -> Games.squads(2, 4, 5, 5, 5), x -> x.substitute(0, 6));
        check.illegalState("behind a match", Games.then(SubstitutesTest::match, Games::playOut), x -> x.substitute(0, 6));
        Supplier<Raidline> raid = Games.then(SubstitutesTest::match, x -> x.raid(0));
        check.illegalState("a raider in a raid", raid, x -> x.substitute(2, 6));
        check.illegalState("a defender in a raid", raid, x -> x.substitute(1, 7));
        check.is("behind a raid", Games.then(raid, Raidline::comeBack).get().substitute(0, 6), 1);
    }
}

import java.util.function.Supplier;

/** "Matches", and promises 11 and 12: editions, and how a match begins. */
final class EditionTest {
    private EditionTest() {
    }

    static void run(Check check) {
        editionsBefore(check);
        onMat(check);
        bonusFrom(check);
        revived(check);
        raids(check);
        whileMatchGoesOn(check);
        firstEdition(check);
        matchesBegun(check);
        noSuchSquad(check);
        likeSquads(check);
        tooFewPlayers(check);
        matAndBench(check);
        oneMatchAtOnce(check);
        oneIsUp(check);
    }

    private static void editionsBefore(Check check) {
        check.by("11", "Sets the edition.");
        check.by("11", "Returns how many stood on the mat before.");
        Raidline x = new Raidline();
        check.is("the first edition", x.edition(3, 1, true, 2), 7);
        check.is("the second one", x.edition(5, 7, false, 20), 3);
        check.is("the third one", x.edition(5, 7, false, 20), 5);
    }

    private static void onMat(Check check) {
        check.by("Matches", "An edition tells how many stand on the mat, 3 to 7,");
        check.by("11", "Throws `IllegalArgumentException` if a number is out of range");
        for (int mat = 3; mat <= 7; mat++) {
            Raidline x = Games.match(8, mat, 1, true, 2);
            check.is("on the mat", x.onMat(0) + " " + x.onMat(1), mat + " " + mat);
        }
        int[] others = {2, 8, 0, -3, Integer.MIN_VALUE, Integer.MAX_VALUE};
        for (int mat : others) {
            check.illegalArgument("on the mat " + mat, Raidline::new, x -> x.edition(mat, 1, true, 2));
        }
    }

    private static void bonusFrom(Check check) {
        check.by("Matches", "from how many defenders on there is a bonus,");
        check.by("11", "`bonusFrom`: from how many defenders there is a bonus, 1 to 7");
        check.is("from 1", new Raidline().edition(3, 1, true, 2), 7);
        check.is("from 7", new Raidline().edition(3, 7, true, 2), 7);
        int[] others = {0, 8, -1, Integer.MIN_VALUE, Integer.MAX_VALUE};
        for (int from : others) {
            check.illegalArgument("bonus from " + from, Raidline::new, x -> x.edition(3, from, true, 2));
        }
        for (int from = 1; from <= 7; from++) {
            Raidline x = Games.match(5, 5, from, true, 2);
            Games.raid(x);
            check.is("a bonus against 5, from " + from, Check.answerOf(x::bonus),
                from <= 5 ? "4" : "throws UnsupportedOperationException");
        }
    }

    private static void revived(Check check) {
        check.by("Matches", "whether players are revived,");
        Raidline x = Games.match(3, 3, 1, true, 2);
        Games.touchRaid(x, 1);
        Games.touchRaid(x, 1);
        check.is("revived", Games.out(x, 1), "");
        Raidline y = Games.match(3, 3, 1, false, 2);
        Games.touchRaid(y, 1);
        Games.touchRaid(y, 1);
        check.is("not revived", Games.out(y, 1), "1");
    }

    private static void raids(Check check) {
        check.by("Matches", "and how many raids a half has, 2 to 20, even.");
        for (int raids = 2; raids <= 20; raids += 2) {
            Raidline x = Games.match(3, 3, 1, true, raids);
            Games.playOut(x);
            check.is("raids of two halves", x.raids(), 2 * raids);
        }
        int[] others = {1, 3, 19, 21, 0, 22, -2, Integer.MIN_VALUE, Integer.MAX_VALUE};
        for (int number : others) {
            check.illegalArgument("raids " + number, Raidline::new, x -> x.edition(3, 1, true, number));
        }
    }

    private static void whileMatchGoesOn(Check check) {
        check.by("11", "Throws `IllegalStateException` if a match goes on");
        Supplier<Raidline> match = () -> Games.match(4, 3, 1, true, 2);
        check.illegalState("edition in a match", match, x -> x.edition(4, 7, false, 4));
        check.illegalState("edition in a raid", Games.then(match, Games::raid), x -> x.edition(4, 7, false, 4));
        Raidline y = match.get();
        Games.playOut(y);
        check.is("edition behind the match", y.edition(4, 7, false, 4), 3);
        Raidline z = Games.then(Games::ofSorts, x -> x.putUp(0)).get();
        check.is("edition while one is up", z.edition(4, 7, false, 4), 7);
    }

    private static void firstEdition(Check check) {
        check.by("Matches", "At first these are 7, 6, revived, 10.");
        Raidline x = Games.squads(2, 8, 5, 5, 5);
        x.begin(0, 1, false);
        check.is("on the mat", x.onMat(0) + " " + x.onMat(1), "7 7");
        Games.touchRaid(x, 1);
        Games.emptyRaids(x, 1);
        x.raid(0);
        check.is("a bonus against 6", x.bonus(), 4);
        x.touch(3, true, true);
        x.comeBack();
        Games.emptyRaids(x, 1);
        x.raid(0);
        check.isUnsupported("a bonus against 5", x::bonus);
        x.comeBack();
        Games.touchRaid(x, 1);
        check.is("revived", Games.out(x, 1), "3");
        Games.emptyRaids(x, 13);
        check.is("behind 19 raids", x.goesOn(), true);
        Games.emptyRaids(x, 1);
        check.is("behind 20 raids", x.goesOn(), false);
    }

    private static Raidline ready(int each, int onMat) {
        Raidline game = Games.squads(3, each, 5, 5, 5);
        game.edition(onMat, 1, true, 2);
        return game;
    }

    private static void matchesBegun(Check check) {
        check.by("12", "Begins a match.");
        check.by("12", "Returns how many matches were begun.");
        Raidline x = ready(3, 3);
        check.is("the first match", x.begin(2, 1, false), 1);
        check.is("it goes on", x.goesOn(), true);
        check.is("the first squad's mat", Games.mat(x, 0), "2 5 8");
        check.is("the other one's mat", Games.mat(x, 1), "1 4 7");
        Games.playOut(x);
        check.isUnsupported("what is refused does not count", () -> {
            x.squad();
            return x.begin(0, 3, false);
        });
        check.is("the second match", x.begin(0, 1, true), 2);
        check.is("no raids yet", x.raids(), 0);
        check.is("no points yet", Games.points(x), "0:0");
    }

    private static void noSuchSquad(Check check) {
        check.by("12", "Throws `IndexOutOfBoundsException` if there is no such squad, for either");
        check.is("the last squad", ready(3, 3).begin(2, 0, false), 1);
        int[] squads = {3, 4, -1, Integer.MIN_VALUE, Integer.MAX_VALUE};
        for (int squad : squads) {
            check.outOfBounds("begin(" + squad + ", 0)", () -> ready(3, 3), x -> x.begin(squad, 0, false));
            check.outOfBounds("begin(0, " + squad + ")", () -> ready(3, 3), x -> x.begin(0, squad, true));
        }
    }

    private static void likeSquads(Check check) {
        check.by("Matches", "A match is between two unlike squads");
        check.by("12", "Throws `IllegalArgumentException` if both are the same");
        for (int squad = 0; squad < 3; squad++) {
            int same = squad;
            check.illegalArgument("begin of " + squad + " twice", () -> ready(3, 3), x -> x.begin(same, same, false));
        }
        check.is("begin of two", ready(3, 3).begin(1, 0, false), 1);
    }

    private static void tooFewPlayers(Check check) {
        check.by("Matches", "with as many players at least as stand on the mat;");
        check.by("12", "Throws `UnsupportedOperationException` if one has too few players");
        for (int mat = 3; mat <= 7; mat++) {
            int standing = mat;
            check.is("just enough players", ready(mat, mat).begin(0, 1, false), 1);
            check.unsupported("the first one has 1 too few", () -> withOneMore(standing - 1, standing), x -> x.begin(1, 0, false));
            check.unsupported("the other one has 1 too few", () -> withOneMore(standing - 1, standing), x -> x.begin(0, 1, false));
        }
        check.unsupported("no players at all", Games.then(Games::ofSorts, x -> x.edition(3, 1, true, 2)), x -> x.begin(0, 1, false));
    }

    /** Squad 0 has one more than the others. */
    private static Raidline withOneMore(int each, int onMat) {
        Raidline game = ready(each, onMat);
        Games.buy(game, game.player(5, 5, 5, 'c'), 0);
        return game;
    }

    private static void matAndBench(Check check) {
        check.by("Matches", "the players with the lowest numbers stand there,");
        check.by("Matches", "the others are on the bench, in the order of their numbers.");
        Raidline x = new Raidline();
        for (int i = 0; i < 12; i++) {
            x.player(5, 5, 5, 'c');
        }
        x.squad();
        x.squad();
        int[] order = {11, 3, 0, 7, 4, 9};
        for (int player : order) {
            Games.buy(x, player, 0);
        }
        for (int i = 0; i < 12; i++) {
            if (x.squadOf(i) < 0) {
                Games.buy(x, i, 1);
            }
        }
        x.edition(4, 1, true, 2);
        x.begin(0, 1, false);
        check.is("the mat of one", Games.mat(x, 0), "0 3 4 7");
        check.is("the bench of one", Games.bench(x, 0), "9 11");
        check.is("the mat of the other", Games.mat(x, 1), "1 2 5 6");
        check.is("the bench of the other", Games.bench(x, 1), "8 10");
        check.is("nobody is out", Games.out(x, 0) + Games.out(x, 1), "");
        Raidline y = Games.match(3, 3, 1, true, 2);
        check.is("nobody is on the bench", Games.bench(y, 0) + Games.bench(y, 1), "");
    }

    private static void oneMatchAtOnce(Check check) {
        check.by("12", "Throws `IllegalStateException` if a match goes on,");
        Supplier<Raidline> match = Games.then(() -> ready(3, 3), x -> x.begin(0, 1, false));
        check.illegalState("the same match twice", match, x -> x.begin(0, 1, false));
        check.illegalState("another match", match, x -> x.begin(2, 1, true));
        check.illegalState("a match in a raid", Games.then(match, Games::raid), x -> x.begin(0, 1, false));
        Raidline y = match.get();
        Games.playOut(y);
        check.is("a match behind it", y.begin(0, 1, false), 2);
    }

    private static void oneIsUp(Check check) {
        check.by("12", "or a player is put up");
        Supplier<Raidline> up = Games.then(() -> ready(3, 3), x -> x.putUp(x.player(5, 5, 5, 'c')));
        check.illegalState("a match while one is up", up, x -> x.begin(0, 1, false));
        Raidline y = up.get();
        y.knockDown();
        check.is("a match behind the end", y.begin(0, 1, false), 1);
    }
}

/** "Players", and promises 1 to 3: a new object, players and squads. */
final class PlayersTest {
    private static final int[] NO_ABILITIES = {0, 10, -1, 11, Integer.MIN_VALUE, Integer.MAX_VALUE};

    private PlayersTest() {
    }

    static void run(Check check) {
        newObject(check);
        numbersOfPlayers(check);
        reaches(check);
        speeds(check);
        grips(check);
        sorts(check);
        fortyPlayers(check);
        numbersOfSquads(check);
        fourSquads(check);
        purses(check);
        twelvePlayers(check);
    }

    private static void newObject(Check check) {
        check.by("1", "Creates a place without players and squads.");
        check.outOfBounds("player 0 of a new object", Raidline::new, x -> x.squadOf(0));
        check.outOfBounds("squad 0 of a new object", Raidline::new, x -> x.purse(0));
        check.missing("place 0 of a new object", Raidline::new, x -> x.placed(0));
        check.is("a match of a new object", new Raidline().goesOn(), false);
    }

    private static void numbersOfPlayers(Check check) {
        check.by("2", "Adds a player.");
        check.by("2", "Returns the number.");
        Raidline x = new Raidline();
        check.is("the first player", x.player(1, 9, 5, 'a'), 0);
        check.is("the second player", x.player(9, 1, 5, 'b'), 1);
        check.is("the third player", x.player(5, 5, 1, 'c'), 2);
        check.is("a player without a squad", x.squadOf(2), -1);
    }

    private static void reaches(Check check) {
        check.by("Players", "each with a reach, a speed and a grip, 1 to 9,");
        check.by("2", "Throws `IllegalArgumentException` if a number is out of range,");
        check.is("reach 1", new Raidline().player(1, 5, 5, 'a'), 0);
        check.is("reach 9", new Raidline().player(9, 5, 5, 'a'), 0);
        for (int number : NO_ABILITIES) {
            check.illegalArgument("reach " + number, Raidline::new, x -> x.player(number, 5, 5, 'a'));
        }
    }

    private static void speeds(Check check) {
        check.by("Players", "a speed");
        check.is("speed 1", new Raidline().player(5, 1, 5, 'a'), 0);
        check.is("speed 9", new Raidline().player(5, 9, 5, 'a'), 0);
        for (int number : NO_ABILITIES) {
            check.illegalArgument("speed " + number, Raidline::new, x -> x.player(5, number, 5, 'a'));
        }
    }

    private static void grips(Check check) {
        check.by("Players", "and a grip");
        check.is("grip 1", new Raidline().player(5, 5, 1, 'a'), 0);
        check.is("grip 9", new Raidline().player(5, 5, 9, 'a'), 0);
        for (int number : NO_ABILITIES) {
            check.illegalArgument("grip " + number, Raidline::new, x -> x.player(5, 5, number, 'a'));
        }
    }

    private static void sorts(Check check) {
        check.by("Players", "and a sort, 'a', 'b' or 'c'.");
        check.by("2", "or there is no such sort");
        for (char sort = 'a'; sort <= 'c'; sort++) {
            check.is("sort " + sort, new Raidline().player(5, 5, 5, sort), 0);
        }
        char[] others = {'`', 'd', 'A', 'B', 'C', ' ', '1', (char) 0, (char) 353, (char) 65535};
        for (char sort : others) {
            check.illegalArgument("sort " + (int) sort, Raidline::new, x -> x.player(5, 5, 5, sort));
        }
    }

    private static Raidline ofPlayers(int count) {
        Raidline game = new Raidline();
        for (int i = 0; i < count; i++) {
            game.player(5, 5, 5, 'c');
        }
        return game;
    }

    private static void fortyPlayers(Check check) {
        check.by("Players", "At most 40 players are numbered from 0,");
        check.by("2", "Throws `IllegalStateException` if there are 40");
        Raidline x = ofPlayers(39);
        check.is("the fortieth player", x.player(5, 5, 5, 'a'), 39);
        check.is("the fortieth player is put up", x.putUp(39), 30);
        check.illegalState("a player behind 40", () -> ofPlayers(40), y -> y.player(5, 5, 5, 'a'));
        check.outOfBounds("player 40 of 40", () -> ofPlayers(40), y -> y.squadOf(40));
    }

    private static Raidline ofSquads(int count) {
        Raidline game = new Raidline();
        for (int i = 0; i < count; i++) {
            game.squad();
        }
        return game;
    }

    private static void numbersOfSquads(Check check) {
        check.by("3", "Adds a squad.");
        check.by("3", "Returns its number.");
        Raidline x = new Raidline();
        check.is("the first squad", x.squad(), 0);
        check.is("the second squad", x.squad(), 1);
        check.is("the third squad", x.squad(), 2);
    }

    private static void fourSquads(Check check) {
        check.by("Players", "At most 4 squads are numbered from 0,");
        check.by("3", "Throws `IllegalStateException` if there are 4");
        Raidline x = ofSquads(3);
        check.is("the fourth squad", x.squad(), 3);
        check.is("its place", x.placed(3), 3);
        check.illegalState("a squad behind 4", () -> ofSquads(4), Raidline::squad);
        check.outOfBounds("squad 4 of 4", () -> ofSquads(4), y -> y.purse(4));
    }

    private static void purses(Check check) {
        check.by("Players", "each with a purse of 200");
        Raidline x = ofSquads(4);
        for (int squad = 0; squad < 4; squad++) {
            check.is("the purse of squad " + squad, x.purse(squad), 200);
        }
    }

    private static void twelvePlayers(Check check) {
        check.by("Players", "and at most 12 players.");
        Raidline x = ofPlayers(12);
        x.squad();
        for (int i = 0; i < 12; i++) {
            Games.buy(x, i, 0);
        }
        check.is("the twelfth player", x.squadOf(11), 0);
        check.unsupported("a thirteenth player", () -> AuctionTest.upBehind(12), y -> y.bid(0, 10));
    }
}

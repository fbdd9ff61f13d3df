/** Promises 1 to 3: a new object, players and squads. */
final class PlayersTest {
    private PlayersTest() {
    }

    static void run(Check check) {
        newObject(check);
        players(check);
        squads(check);
    }

    private static void newObject(Check check) {
        Raidline x = new Raidline();
        check.isOutOfBounds("a new object has no player", () -> x.squadOf(0));
        check.isOutOfBounds("a new object has no squad", () -> x.purse(0));
        check.isMissing("a new object has no place", () -> x.placed(0));
        check.is("a new object has no match", x.goesOn(), false);
        check.is("a new object has no raids", x.raids(), 0);
        check.is("points(0) without a match", x.points(0), 0);
        check.is("points(1) without a match", x.points(1), 0);
        check.is("the first edition has 7 on the mat", x.edition(3, 1, false, 2), 7);
    }

    private static void players(Check check) {
        Raidline x = new Raidline();
        check.is("player", x.player(1, 9, 5, 'a'), 0);
        check.is("player", x.player(9, 1, 5, 'b'), 1);
        check.is("player", x.player(5, 5, 1, 'c'), 2);
        check.is("player", x.player(5, 5, 9, 'c'), 3);
        int[] wrong = {0, 10, -1, Integer.MIN_VALUE, Integer.MAX_VALUE};
        for (int number : wrong) {
            check.isIllegalArgument("reach " + number, () -> x.player(number, 5, 5, 'a'));
            check.isIllegalArgument("speed " + number, () -> x.player(5, number, 5, 'a'));
            check.isIllegalArgument("grip " + number, () -> x.player(5, 5, number, 'a'));
        }
        char[] sorts = {'d', 'A', '`', (char) 0, 'x'};
        for (char sort : sorts) {
            check.isIllegalArgument("sort " + (int) sort, () -> x.player(5, 5, 5, sort));
        }
        for (int i = 4; i < 40; i++) {
            check.is("player", x.player(5, 5, 5, 'a'), i);
        }
        check.isIllegalState("a player behind 40", () -> x.player(5, 5, 5, 'a'));
        check.isIllegalArgument("a wrong player behind 40", () -> x.player(5, 5, 5, 'd'));
        check.is("the last player", x.squadOf(39), -1);
        check.isOutOfBounds("player 40", () -> x.squadOf(40));
    }

    private static void squads(Check check) {
        Raidline x = new Raidline();
        for (int i = 0; i < 4; i++) {
            check.is("squad", x.squad(), i);
            check.is("its purse", x.purse(i), 200);
        }
        check.isIllegalState("a squad behind 4", x::squad);
        check.isOutOfBounds("squad 4", () -> x.purse(4));
    }
}

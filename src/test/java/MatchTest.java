import java.util.function.Supplier;

/** "Matches", and promises 13 to 19 and 29: turns, ends, and who stands where. */
final class MatchTest {
    private static final int[] NO_SIDES = {-1, 2, Integer.MIN_VALUE, Integer.MAX_VALUE};
    private static final int[] NO_INDICES = {-1, 7, 12, Integer.MIN_VALUE, Integer.MAX_VALUE};

    private MatchTest() {
    }

    static void run(Check check) {
        turns(check);
        turnInShortHalves(check);
        turnWithoutMatch(check);
        raidsOver(check);
        points(check);
        pointsOfNoSide(check);
        onMat(check);
        matAt(check);
        outAt(check);
        benchAt(check);
        goesOn(check);
        overByHalves(check);
        overThoughItMustBeWon(check);
        extraRaids(check);
        leadInExtraRaids(check);
        goldenRaids(check);
        longGoldenRaids(check);
    }

    private static Raidline toBeWon() {
        Raidline game = Games.squads(2, 3, 5, 5, 5);
        game.edition(3, 1, true, 2);
        game.begin(0, 1, true);
        return game;
    }

    private static void turns(Check check) {
        check.by("Matches", "Squads raid in turn, the first one first, in the second half the other one first.");
        check.by("13", "Returns which squad raids next.");
        check.by("13", "Returns 0 for the first squad of the match, 1 for the other one.");
        Raidline x = Games.squads(2, 3, 5, 5, 5);
        x.edition(3, 1, true, 4);
        x.begin(1, 0, false);
        int[] due = {0, 1, 0, 1, 1, 0, 1, 0};
        for (int i = 0; i < due.length; i++) {
            check.is("the turn of raid " + i, x.turn(), due[i]);
            Games.raid(x);
            check.is("the turn in raid " + i, x.turn(), due[i]);
            x.bonus();
            x.comeBack();
        }
        check.is("each side had four raids", Games.points(x), "4:4");
    }

    private static void turnInShortHalves(Check check) {
        Raidline x = toBeWon();
        int[] due = {0, 1, 1, 0, 0, 1, 0, 1, 0, 1, 0};
        for (int i = 0; i < due.length; i++) {
            check.is("the turn of raid " + i, x.turn(), due[i]);
            Games.emptyRaids(x, 1);
        }
    }

    private static void turnWithoutMatch(Check check) {
        check.by("13", "Throws `IllegalStateException` if no match goes on");
        check.illegalState("turn of a new object", Raidline::new, Raidline::turn);
        check.illegalState("turn behind a match", Games.then(() -> Games.match(3, 3, 1, true, 2), Games::playOut), Raidline::turn);
    }

    private static void raidsOver(Check check) {
        check.by("14", "Returns how many raids are over in the match that goes on, or was last.");
        check.by("14", "Returns how many, 0 without one.");
        check.is("without a match", new Raidline().raids(), 0);
        Raidline x = Games.match(3, 3, 1, true, 2);
        check.is("at the beginning", x.raids(), 0);
        Games.raid(x);
        check.is("in the first raid", x.raids(), 0);
        x.comeBack();
        check.is("behind the first raid", x.raids(), 1);
        Games.playOut(x);
        check.is("behind the match", x.raids(), 4);
        x.season();
        check.is("behind the season", x.raids(), 4);
        Raidline y = Games.match(3, 3, 1, true, 2);
        Games.playOut(y);
        y.begin(0, 1, false);
        check.is("in the next match", y.raids(), 0);
    }

    private static void points(Check check) {
        check.by("15", "Returns the points of a squad in the match that goes on, or was last.");
        check.by("15", "Returns the points, 0 without a match.");
        check.is("without a match", Games.points(new Raidline()), "0:0");
        Raidline x = Games.match(3, 3, 1, true, 2);
        check.is("at the beginning", Games.points(x), "0:0");
        Games.touchRaid(x, 2);
        Games.bonusRaids(x, 1);
        check.is("in the match", Games.points(x), "2:1");
        Games.playOut(x);
        check.is("behind the match", Games.points(x), "2:1");
        x.begin(1, 0, false);
        check.is("in the next match", Games.points(x), "0:0");
    }

    private static void pointsOfNoSide(Check check) {
        check.by("15", "`side`: 0 for its first squad, 1 for the other one");
        check.by("15", "Throws `IllegalArgumentException` if there is no such side");
        for (int side : NO_SIDES) {
            check.illegalArgument("points(" + side + ") without a match", Raidline::new, x -> x.points(side));
            check.illegalArgument("points(" + side + ")", MatchTest::oneIsOut, x -> x.points(side));
        }
    }

    /** Player 1 is out; 6 and 7 are on the benches. */
    private static Raidline oneIsOut() {
        Raidline game = Games.match(4, 3, 1, true, 2);
        Games.touchRaid(game, 1);
        return game;
    }

    private static Supplier<Raidline> over() {
        return Games.then(MatchTest::oneIsOut, Games::playOut);
    }

    private static void onMat(Check check) {
        check.by("16", "Returns how many of a side stand on the mat.");
        check.by("16", "Returns how many.");
        check.is("three and two", oneIsOut().onMat(0) + " " + oneIsOut().onMat(1), "3 2");
        check.by("16", "`side`: the side, 0 or 1");
        check.by("16", "Throws `IllegalArgumentException` if there is no such side");
        for (int side : NO_SIDES) {
            check.illegalArgument("onMat(" + side + ")", MatchTest::oneIsOut, x -> x.onMat(side));
        }
        check.by("16", "Throws `IllegalStateException` if no match goes on");
        check.illegalState("onMat of a new object", Raidline::new, x -> x.onMat(0));
        check.illegalState("onMat behind a match", over(), x -> x.onMat(1));
    }

    private static void matAt(Check check) {
        check.by("17", "Returns a player on the mat, by rising numbers.");
        check.by("17", "Returns the player.");
        check.by("17", "`index`: the index, from 0");
        check.is("the first one", oneIsOut().matAt(0, 0), 0);
        check.is("the last one", oneIsOut().matAt(0, 2), 4);
        check.is("behind one who is out", oneIsOut().matAt(1, 0), 3);
        check.by("17", "`side`: the side, 0 or 1");
        check.by("17", "Throws `IllegalArgumentException` if there is no such side");
        for (int side : NO_SIDES) {
            check.illegalArgument("matAt(" + side + ", 0)", MatchTest::oneIsOut, x -> x.matAt(side, 0));
        }
        check.by("17", "Throws `IllegalStateException` if no match goes on");
        check.illegalState("matAt of a new object", Raidline::new, x -> x.matAt(0, 0));
        check.illegalState("matAt behind a match", over(), x -> x.matAt(1, 0));
        check.by("17", "Throws `NoSuchElementException` if there is none");
        check.missing("matAt(0, 3) of three", MatchTest::oneIsOut, x -> x.matAt(0, 3));
        check.missing("matAt(1, 2) of two", MatchTest::oneIsOut, x -> x.matAt(1, 2));
        for (int index : NO_INDICES) {
            check.missing("matAt(0, " + index + ")", MatchTest::oneIsOut, x -> x.matAt(0, index));
        }
    }

    private static void outAt(Check check) {
        check.by("18", "Returns a player who is out, the one who is out longest first.");
        check.by("18", "Returns the player.");
        check.by("18", "`index`: the index, from 0");
        check.is("the only one", oneIsOut().outAt(1, 0), 1);
        Raidline y = Games.match(4, 4, 1, true, 2);
        Games.raid(y);
        y.stepOut(5);
        y.stepOut(1);
        y.comeBack();
        check.is("the one who is out longest", y.outAt(1, 0), 5);
        check.is("the one who is out behind", y.outAt(1, 1), 1);
        check.by("18", "`side`: the side, 0 or 1");
        check.by("18", "Throws `IllegalArgumentException` if there is no such side");
        for (int side : NO_SIDES) {
            check.illegalArgument("outAt(" + side + ", 0)", MatchTest::oneIsOut, x -> x.outAt(side, 0));
        }
        check.by("18", "Throws `IllegalStateException` if no match goes on");
        check.illegalState("outAt of a new object", Raidline::new, x -> x.outAt(0, 0));
        check.illegalState("outAt behind a match", over(), x -> x.outAt(1, 0));
        check.by("18", "Throws `NoSuchElementException` if there is none");
        check.missing("outAt(0, 0) of none", MatchTest::oneIsOut, x -> x.outAt(0, 0));
        check.missing("outAt(1, 1) of one", MatchTest::oneIsOut, x -> x.outAt(1, 1));
        for (int index : NO_INDICES) {
            check.missing("outAt(1, " + index + ")", MatchTest::oneIsOut, x -> x.outAt(1, index));
        }
    }

    private static void benchAt(Check check) {
        check.by("19", "Returns a player on the bench.");
        check.by("19", "Returns the player.");
        check.by("19", "`index`: the index, from 0");
        check.is("the only one", oneIsOut().benchAt(1, 0), 7);
        check.is("the second one", Games.match(5, 3, 1, true, 2).benchAt(0, 1), 8);
        check.by("19", "`side`: the side, 0 or 1");
        check.by("19", "Throws `IllegalArgumentException` if there is no such side");
        for (int side : NO_SIDES) {
            check.illegalArgument("benchAt(" + side + ", 0)", MatchTest::oneIsOut, x -> x.benchAt(side, 0));
        }
        check.by("19", "Throws `IllegalStateException` if no match goes on");
        check.illegalState("benchAt of a new object", Raidline::new, x -> x.benchAt(0, 0));
        check.illegalState("benchAt behind a match", over(), x -> x.benchAt(1, 0));
        check.by("19", "Throws `NoSuchElementException` if there is none");
        check.missing("benchAt(0, 0) of none", () -> Games.match(3, 3, 1, true, 2), x -> x.benchAt(0, 0));
        check.missing("benchAt(1, 1) of one", MatchTest::oneIsOut, x -> x.benchAt(1, 1));
        for (int index : NO_INDICES) {
            check.missing("benchAt(1, " + index + ")", MatchTest::oneIsOut, x -> x.benchAt(1, index));
        }
        Raidline y = oneIsOut();
        Games.playOut(y);
        y.begin(0, 1, false);
        check.is("the next match begins anew", Games.mat(y, 1) + "/" + Games.out(y, 1) + "/" + Games.bench(y, 1), "1 3 5//7");
    }

    private static void goesOn(Check check) {
        check.by("29", "Tells whether a match goes on.");
        check.by("29", "Returns whether one does.");
        check.is("a new object", new Raidline().goesOn(), false);
        Raidline x = Games.match(3, 3, 1, true, 2);
        check.is("at the beginning", x.goesOn(), true);
        Games.emptyRaids(x, 3);
        Games.raid(x);
        check.is("in the last raid", x.goesOn(), true);
        x.comeBack();
        check.is("behind it", x.goesOn(), false);
        x.begin(0, 1, false);
        check.is("in the next match", x.goesOn(), true);
    }

    private static void overByHalves(Check check) {
        check.by("Matches", "At the end of the halves it is over,");
        Raidline x = Games.match(3, 3, 1, true, 2);
        Games.emptyRaids(x, 3);
        check.is("behind 3 of 4 raids", x.goesOn(), true);
        Games.emptyRaids(x, 1);
        check.is("behind 4 of 4 raids, level", x.goesOn(), false);
        Raidline y = Games.match(3, 3, 1, true, 2);
        Games.emptyRaids(y, 3);
        Games.touchRaid(y, 1);
        check.is("behind 4 of 4 raids, not level", y.goesOn(), false);
        check.isIllegalState("a raid behind the match", () -> y.raid(0));
    }

    private static void overThoughItMustBeWon(Check check) {
        check.by("Matches", "unless it must be won and is level:");
        Raidline x = toBeWon();
        Games.touchRaid(x, 1);
        Games.emptyRaids(x, 2);
        check.is("behind 3 of 4 raids, not level", x.goesOn(), true);
        Games.emptyRaids(x, 1);
        check.is("behind 4 of 4 raids, not level", x.goesOn(), false);
        check.is("without extra raids", x.raids(), 4);
        Raidline y = toBeWon();
        Games.touchRaid(y, 1);
        Games.touchRaid(y, 1);
        Games.emptyRaids(y, 2);
        check.is("level at 1:1", y.goesOn(), true);
        Raidline z = toBeWon();
        Games.emptyRaids(z, 4);
        check.is("level at 0:0", z.goesOn(), true);
        check.is("no result yet", z.league(0) + z.league(1), 0);
    }

    private static void extraRaids(Check check) {
        check.by("Matches", "then there are 4 extra raids, in turn, the first squad first,");
        Raidline x = toBeWon();
        Games.emptyRaids(x, 4);
        for (int i = 0; i < 4; i++) {
            check.is("goes on behind " + i + " extra raids", x.goesOn(), true);
            check.is("the turn of an extra raid", x.turn(), i % 2);
            Games.bonusRaids(x, i == 3 ? 0 : 1);
            Games.emptyRaids(x, i == 3 ? 1 : 0);
        }
        check.is("over behind four, not level", x.goesOn(), false);
        check.is("raids", x.raids(), 8);
        check.is("points", Games.points(x), "2:1");
        check.is("a win and a loss", x.league(0) + " " + x.league(1), "5 1");
    }

    private static void leadInExtraRaids(Check check) {
        Raidline x = toBeWon();
        Games.bonusRaids(x, 4);
        Games.bonusRaids(x, 1);
        check.is("one leads behind 1 of 4", x.goesOn(), true);
        Games.emptyRaids(x, 2);
        check.is("one leads behind 3 of 4", x.goesOn(), true);
        Games.bonusRaids(x, 1);
        check.is("level behind 4 of 4", x.goesOn(), true);
    }

    private static void goldenRaids(Check check) {
        check.by("Matches", "and, level still, golden raids in turn until one of the squads leads behind one.");
        Raidline x = toBeWon();
        Games.bonusRaids(x, 8);
        check.is("level behind the extra raids", x.goesOn(), true);
        check.is("the turn of the first golden raid", x.turn(), 0);
        Raidline y = toBeWon();
        Games.bonusRaids(y, 8);
        Games.bonusRaids(y, 1);
        check.is("one leads behind the first", y.goesOn() + " " + y.raids(), "false 9");
        Games.emptyRaids(x, 1);
        check.is("level behind the first", x.goesOn(), true);
        check.is("the turn of the second one", x.turn(), 1);
        Games.raid(x);
        x.bonus();
        check.is("a lead within a golden raid", x.goesOn(), true);
        x.comeBack();
        check.is("one leads behind the second", x.goesOn() + " " + x.raids(), "false 10");
        check.is("a loss and a win", x.league(0) + " " + x.league(1), "1 5");
    }

    private static void longGoldenRaids(Check check) {
        Raidline x = toBeWon();
        Games.bonusRaids(x, 8);
        for (int i = 0; i < 4; i++) {
            check.is("the turn of golden raid " + i, x.turn(), i % 2);
            Games.emptyRaids(x, 1);
            check.is("goes on behind golden raid " + i, x.goesOn(), true);
        }
        check.is("do or die", Games.raid(x), true);
        x.comeBack();
        check.is("one leads behind the fifth", x.goesOn() + " " + x.raids() + " " + Games.points(x), "false 13 4:5");
    }
}

/** Promises 11 to 19 and 29: editions, matches, turns, and who stands where. */
final class MatchTest {
    private MatchTest() {
    }

    static void run(Check check) {
        editions(check);
        beginning(check);
        beginningOrder(check);
        lines(check);
        linesOrder(check);
        turns(check);
        overByHalves(check);
        extraRaids(check);
        goldenRaids(check);
        firstEdition(check);
    }

    private static void editions(Check check) {
        Raidline x = new Raidline();
        check.is("7 before", x.edition(3, 1, true, 2), 7);
        check.is("3 before", x.edition(7, 7, false, 20), 3);
        check.is("7 before", x.edition(5, 4, false, 10), 7);
        int[] mats = {2, 8, -1, Integer.MAX_VALUE};
        for (int mat : mats) {
            check.isIllegalArgument("on the mat " + mat, () -> x.edition(mat, 1, true, 2));
        }
        int[] from = {0, 8, -1};
        for (int number : from) {
            check.isIllegalArgument("bonus from " + number, () -> x.edition(3, number, true, 2));
        }
        int[] raids = {0, 1, 3, 19, 21, 22, -2};
        for (int number : raids) {
            check.isIllegalArgument("raids " + number, () -> x.edition(3, 1, true, number));
        }
        check.is("5 before: what throws changes nothing", x.edition(3, 1, true, 2), 5);
        Raidline y = Games.match(3, 3, 1, true, 2);
        check.isIllegalState("while a match goes on", () -> y.edition(4, 1, true, 2));
        check.isIllegalArgument("out of range, ahead of a match", () -> y.edition(2, 1, true, 2));
    }

    private static void beginning(Check check) {
        Raidline x = Games.squads(3, 3, 5, 5, 5);
        check.isUnsupported("too few for 7", () -> x.begin(0, 1, false));
        x.edition(3, 1, true, 2);
        check.is("the first match", x.begin(2, 1, false), 1);
        check.is("it goes on", x.goesOn(), true);
        check.is("first squad's mat", Games.mat(x, 0), "2 5 8");
        check.is("other squad's mat", Games.mat(x, 1), "1 4 7");
        for (int i = 0; i < 4; i++) {
            Games.emptyRaid(x);
        }
        check.is("it is over", x.goesOn(), false);
        check.is("the second match", x.begin(0, 1, true), 2);
        check.is("raids anew", x.raids(), 0);
        Raidline y = Games.squads(2, 4, 5, 5, 5);
        y.edition(4, 1, true, 2);
        check.is("just enough", y.begin(1, 0, false), 1);
    }

    private static void beginningOrder(Check check) {
        Raidline x = Games.squads(2, 3, 5, 5, 5);
        x.player(5, 5, 5, 'c');
        check.isOutOfBounds("begin(2, 0)", () -> x.begin(2, 0, false));
        check.isOutOfBounds("begin(0, 2)", () -> x.begin(0, 2, false));
        check.isOutOfBounds("begin(-1, -1)", () -> x.begin(-1, -1, false));
        check.isIllegalArgument("both the same, ahead of too few", () -> x.begin(1, 1, false));
        x.putUp(6);
        check.isUnsupported("too few, ahead of one put up", () -> x.begin(0, 1, false));
        x.edition(3, 1, true, 2);
        check.isIllegalState("one is put up", () -> x.begin(0, 1, false));
        x.bid(0, 10);
        x.knockDown();
        x.squad();
        check.isUnsupported("the other one has too few", () -> x.begin(0, 2, false));
        check.isUnsupported("the first one has too few", () -> x.begin(2, 0, false));
        x.begin(0, 1, false);
        check.isIllegalState("a match goes on", () -> x.begin(1, 0, false));
        check.isUnsupported("too few, ahead of a match", () -> x.begin(1, 2, false));
        check.isIllegalArgument("the same, ahead of a match", () -> x.begin(0, 0, false));
    }

    private static void lines(Check check) {
        Raidline x = Games.match(5, 3, 1, true, 4);
        check.is("on the mat", x.onMat(0) + x.onMat(1), 6);
        check.is("mat 0", Games.mat(x, 0), "0 2 4");
        check.is("mat 1", Games.mat(x, 1), "1 3 5");
        check.is("bench 0", Games.bench(x, 0), "6 8");
        check.is("bench 1", Games.bench(x, 1), "7 9");
        check.is("out 0", Games.out(x, 0), "");
        Games.touchRaid(x, 2);
        check.is("mat 1 behind touches", Games.mat(x, 1), "5");
        check.is("out 1 behind touches", Games.out(x, 1), "1 3");
        check.is("onMat(1)", x.onMat(1), 1);
    }

    private static void linesOrder(Check check) {
        Raidline x = new Raidline();
        int[] sides = {-1, 2, Integer.MIN_VALUE};
        for (int side : sides) {
            check.isIllegalArgument("points of side " + side, () -> x.points(side));
            check.isIllegalArgument("onMat of side " + side, () -> x.onMat(side));
            check.isIllegalArgument("matAt of side " + side, () -> x.matAt(side, 0));
            check.isIllegalArgument("outAt of side " + side, () -> x.outAt(side, 0));
            check.isIllegalArgument("benchAt of side " + side, () -> x.benchAt(side, 0));
        }
        check.isIllegalState("onMat without a match", () -> x.onMat(0));
        check.isIllegalState("matAt without a match", () -> x.matAt(0, 99));
        check.isIllegalState("outAt without a match", () -> x.outAt(1, 99));
        check.isIllegalState("benchAt without a match", () -> x.benchAt(1, 99));
        Raidline y = Games.match(4, 3, 1, true, 4);
        Games.touchRaid(y, 1);
        int[] indices = {-1, 3, 12, Integer.MAX_VALUE, Integer.MIN_VALUE};
        for (int index : indices) {
            check.isMissing("matAt " + index, () -> y.matAt(0, index));
            check.isMissing("outAt " + index, () -> y.outAt(1, index));
            check.isMissing("benchAt " + index, () -> y.benchAt(1, index));
        }
        check.is("the last one of them", y.matAt(0, 2), 4);
        check.is("the only one out", y.outAt(1, 0), 1);
        check.isMissing("behind the only one out", () -> y.outAt(1, 1));
        check.isMissing("behind the only one on the bench", () -> y.benchAt(1, 1));
        check.isIllegalArgument("no such side while one goes on", () -> y.matAt(2, 0));
    }

    private static void turns(Check check) {
        Raidline x = Games.match(3, 3, 1, true, 4);
        int[] due = {0, 1, 0, 1, 1, 0, 1, 0};
        for (int i = 0; i < due.length; i++) {
            check.is("raids over", x.raids(), i);
            check.is("turn of raid " + i, x.turn(), due[i]);
            x.raid(x.matAt(due[i], 0));
            check.is("turn in raid " + i, x.turn(), due[i]);
            check.is("raids over in a raid", x.raids(), i);
            x.stepOut(x.matAt(1 - due[i], 0));
            x.comeBack();
        }
        check.isIllegalState("turn without a match", x::turn);
        check.is("raids of the last match", x.raids(), 8);
        check.isIllegalState("turn on a new object", () -> new Raidline().turn());
    }

    private static void overByHalves(Check check) {
        Raidline x = Games.squads(2, 3, 5, 5, 5);
        x.edition(3, 1, true, 2);
        x.begin(0, 1, false);
        for (int i = 0; i < 4; i++) {
            check.is("goes on", x.goesOn(), true);
            Games.emptyRaid(x);
        }
        check.is("over, though level", x.goesOn(), false);
        check.is("a draw", x.league(0) + x.league(1), 6);
        x.begin(0, 1, true);
        Games.touchRaid(x, 1);
        for (int i = 0; i < 3; i++) {
            check.is("goes on", x.goesOn(), true);
            Games.emptyRaid(x);
        }
        check.is("over as one leads", x.goesOn(), false);
        check.is("points of the last match", x.points(0), 1);
        check.is("a win", x.league(0), 8);
        check.is("a loss by 1", x.league(1), 4);
        check.isIllegalState("no raid any more", () -> x.raid(0));
        check.isIllegalState("onMat any more", () -> x.onMat(0));
    }

    private static void extraRaids(Check check) {
        Raidline x = Games.squads(2, 3, 5, 5, 5);
        x.edition(3, 1, true, 2);
        x.begin(0, 1, true);
        for (int i = 0; i < 4; i++) {
            Games.emptyRaid(x);
        }
        check.is("extra raids", x.goesOn(), true);
        int[] due = {0, 1, 0, 1};
        for (int i = 0; i < 4; i++) {
            check.is("goes on, though one leads", x.goesOn(), true);
            check.is("turn of an extra raid", x.turn(), due[i]);
            Games.touchRaid(x, i == 0 ? 2 : 1);
        }
        check.is("over behind four", x.goesOn(), false);
        check.is("raids", x.raids(), 8);
        check.is("points", x.points(0) * 10 + x.points(1), 32);
    }

    private static void goldenRaids(Check check) {
        Raidline x = Games.squads(2, 3, 5, 5, 5);
        x.edition(3, 1, true, 2);
        x.begin(0, 1, true);
        for (int i = 0; i < 8; i++) {
            Games.touchRaid(x, 1);
        }
        check.is("level behind the extra raids", x.points(0) - x.points(1), 0);
        check.is("golden raids", x.goesOn(), true);
        check.is("the first squad first", x.turn(), 0);
        Games.emptyRaid(x);
        check.is("goes on", x.goesOn(), true);
        check.is("in turn", x.turn(), 1);
        Games.touchRaid(x, 1);
        check.is("over behind the first that leads", x.goesOn(), false);
        check.is("raids", x.raids(), 10);
        check.is("a win for the other one", x.league(1), 5);
    }

    private static void firstEdition(Check check) {
        Raidline x = Games.squads(2, 8, 5, 5, 5);
        x.begin(0, 1, false);
        check.is("7 on the mat", x.onMat(0), 7);
        x.raid(0);
        check.is("a bonus against 7", x.bonus(), 4);
        x.touch(1, true, true);
        x.comeBack();
        Games.emptyRaid(x);
        x.raid(0);
        check.is("a bonus against 6", x.bonus(), 4);
        x.touch(3, true, true);
        x.comeBack();
        Games.emptyRaid(x);
        x.raid(0);
        check.isUnsupported("no bonus against 5", x::bonus);
        x.comeBack();
        check.is("two are out", x.onMat(1), 5);
        Games.touchRaid(x, 1);
        check.is("one comes back", Games.out(x, 1), "3");
        for (int i = 6; i < 20; i++) {
            check.is("goes on", x.goesOn(), true);
            Games.emptyRaid(x);
        }
        check.is("over behind 20 raids", x.goesOn(), false);
    }
}

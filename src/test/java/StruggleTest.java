import java.util.function.Supplier;

/** "Raids", and promise 23: struggles. */
final class StruggleTest {
    private StruggleTest() {
    }

    static void run(Check check) {
        bits(check);
        wrongBits(check);
        bitsBehindStepsOut(check);
        atMostThree(check);
        seconds(check);
        raiderStrength(check);
        strengthOfOne(check);
        strengthOfTwo(check);
        strengthOfThree(check);
        touchedAsCalled(check);
        caught(check);
        withoutRaid(check);
    }

    /** The raiders are 0, 2, 4 and 6, the defenders 1, 3, 5 and 7, with these grips; 0 raids. */
    private static Raidline raid(int reach, int speed, int... grips) {
        Raidline game = new Raidline();
        game.squad();
        game.squad();
        for (int i = 0; i < grips.length; i++) {
            Games.buy(game, game.player(reach, speed, 9, 'c'), 0);
            Games.buy(game, game.player(9, 9, grips[i], 'c'), 1);
        }
        game.edition(grips.length, 1, true, 4);
        game.begin(0, 1, false);
        game.raid(0);
        return game;
    }

    private static void bits(Check check) {
        check.by("Raids", "A struggle with some defenders, told as bits by their order on the mat,");
        check.by("23", "Struggles.");
        for (int i = 0; i < 7; i++) {
            Raidline x = Games.strongRaiders(7, 7, true);
            x.raid(0);
            check.is("a struggle with defender " + i, x.struggle(1 << i), 5);
            x.comeBack();
            check.is("who is out", Games.out(x, 1), String.valueOf(2 * i + 1));
        }
        Raidline y = Games.strongRaiders(7, 7, true);
        y.raid(0);
        y.struggle(1 | 1 << 3 | 1 << 6);
        y.comeBack();
        check.is("the first, the fourth and the last", Games.out(y, 1), "1 7 13");
    }

    private static Supplier<Raidline> against(int onMat) {
        return Games.then(() -> Games.strongRaiders(7, onMat, true), x -> x.raid(0));
    }

    private static void wrongBits(Check check) {
        check.by("23", "Throws `IllegalArgumentException` if there are none,");
        check.illegalArgument("a struggle with none", against(7), x -> x.struggle(0));
        check.by("23", "or such that there are not");
        for (int onMat = 3; onMat <= 7; onMat++) {
            int count = onMat;
            check.is("the last of " + count, against(count).get().struggle(1 << count - 1), 5);
            check.illegalArgument("one behind the last of " + count, against(count), x -> x.struggle(1 << count));
            check.illegalArgument("one who is and one who is not", against(count), x -> x.struggle(1 | 1 << count));
        }
        int[] others = {-1, Integer.MIN_VALUE, Integer.MIN_VALUE | 1, Integer.MAX_VALUE, 1 << 30, 1 << 8, 1 << 16 | 1};
        for (int defenders : others) {
            check.illegalArgument("struggle(" + defenders + ")", against(7), x -> x.struggle(defenders));
        }
    }

    private static void bitsBehindStepsOut(Check check) {
        Supplier<Raidline> stepped = Games.then(against(4), x -> x.stepOut(1));
        check.illegalArgument("the fourth of three", stepped, x -> x.struggle(8));
        Raidline y = stepped.get();
        check.is("the third of three", y.struggle(4), 5);
        y.comeBack();
        check.is("who is out", Games.out(y, 1), "1 7");
        Supplier<Raidline> nobody = Games.then(against(3), x -> {
            x.stepOut(1);
            x.stepOut(3);
            x.stepOut(5);
        });
        check.illegalArgument("a struggle where nobody is", nobody, x -> x.struggle(1));
        check.is("a return from there", nobody.get().comeBack(), 3);
    }

    private static void atMostThree(Check check) {
        check.by("Raids", "at most 3,");
        check.by("23", "more than 3,");
        int[] three = {7, 11, 13, 14, 112, 73};
        for (int defenders : three) {
            check.is("struggle(" + defenders + ")", against(7).get().struggle(defenders), 5);
        }
        int[] more = {15, 30, 120, 85, 31, 127};
        for (int defenders : more) {
            check.illegalArgument("struggle(" + defenders + ")", against(7), x -> x.struggle(defenders));
        }
    }

    private static void seconds(Check check) {
        check.by("Raids", "takes 5 seconds:");
        check.by("23", "Returns the seconds,");
        Raidline x = against(7).get();
        check.is("one struggle", x.struggle(1), 5);
        check.is("the same struggle once more", x.struggle(1), 10);
        check.is("a struggle with three", x.struggle(7), 15);
        check.is("a touch", x.touch(9, true, true), 18);
        check.is("a struggle behind a touch", x.struggle(16), 23);
    }

    private static void raiderStrength(Check check) {
        check.by("Raids", "the strength of the raider is the reach and twice the speed,");
        check.is("3 and 2 times 3 against 9", raid(3, 3, 9, 1, 1, 1).struggle(1), 5);
        check.is("2 and 2 times 3 against 9", raid(2, 3, 9, 1, 1, 1).struggle(1), -1);
        check.is("4 and 2 times 2 against 9", raid(4, 2, 9, 1, 1, 1).struggle(1), -1);
        check.is("5 and 2 times 2 against 9", raid(5, 2, 9, 1, 1, 1).struggle(1), 5);
        check.is("1 and 2 times 4 against 9", raid(1, 4, 9, 1, 1, 1).struggle(1), 5);
    }

    private static void strengthOfOne(Check check) {
        check.by("Raids", "that of the defenders the sum of their grips, 2 more for each beyond the first;");
        check.is("7 against 6", raid(3, 2, 6, 9, 9, 9).struggle(1), 5);
        check.is("7 against 7", raid(3, 2, 7, 9, 9, 9).struggle(1), 5);
        check.is("7 against 8", raid(3, 2, 8, 9, 9, 9).struggle(1), -1);
    }

    private static void strengthOfTwo(Check check) {
        check.is("12 against 4 + 5 + 2", raid(4, 4, 9, 4, 9, 5).struggle(2 | 8), 5);
        check.is("12 against 5 + 5 + 2", raid(4, 4, 9, 5, 9, 5).struggle(2 | 8), 5);
        check.is("12 against 6 + 5 + 2", raid(4, 4, 9, 6, 9, 5).struggle(2 | 8), -1);
    }

    private static void strengthOfThree(Check check) {
        check.is("15 against 2 + 3 + 5 + 4", raid(5, 5, 2, 9, 3, 5).struggle(1 | 4 | 8), 5);
        check.is("15 against 2 + 3 + 6 + 4", raid(5, 5, 2, 9, 3, 6).struggle(1 | 4 | 8), 5);
        check.is("15 against 2 + 3 + 7 + 4", raid(5, 5, 2, 9, 3, 7).struggle(1 | 4 | 8), -1);
    }

    private static void touchedAsCalled(Check check) {
        check.by("Raids", "is the former at least the latter, those of these defenders who are not touched yet, called or not, are touched, as called,");
        Raidline x = Games.strongRaiders(5, 5, true);
        x.raid(0);
        x.touch(1, true, false);
        x.touch(3, true, true);
        x.struggle(7);
        check.is("nobody is out yet", Games.mat(x, 1), "1 3 5 7 9");
        check.is("points", x.comeBack(), 2);
        check.is("one is called, one is touched now", Games.out(x, 1), "3 5");
        check.is("the one whose touch is not called stays", Games.mat(x, 1), "1 7 9");
        Raidline y = Games.strongRaiders(5, 5, true);
        y.raid(0);
        y.struggle(1);
        y.struggle(3);
        check.is("twice in a struggle", y.comeBack(), 2);
        check.isUnsupported("a struggle is not told as a touch", () -> y.review(0, 3));
    }

    private static void caught(Check check) {
        check.by("Raids", "otherwise the raider is caught, which ends the raid.");
        check.by("23", "-1 if the raider is caught,");
        Raidline x = raid(1, 1, 9, 1, 1, 1);
        x.touch(3, true, true);
        check.is("caught", x.struggle(1), -1);
        check.is("the raid is over", x.raids() + " " + x.turn(), "1 1");
        check.is("the raider is out", Games.out(x, 0), "0");
        check.is("nobody else is", Games.mat(x, 1), "1 3 5 7");
        check.isIllegalState("the raid is over", x::comeBack);
    }

    private static void withoutRaid(Check check) {
        check.by("23", "Throws `IllegalStateException` if no raid goes on");
        check.illegalState("struggle of a new object", Raidline::new, x -> x.struggle(1));
        check.illegalState("struggle ahead of a raid", () -> Games.strongRaiders(3, 3, true), x -> x.struggle(1));
        check.illegalState("struggle behind a raid", Games.then(against(3), Raidline::comeBack), x -> x.struggle(1));
    }
}

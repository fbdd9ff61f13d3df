import java.util.function.Supplier;

/** "Reviews", and promise 28. */
final class ReviewsTest {
    private static final int[] NO_SIDES = {-1, 2, Integer.MIN_VALUE, Integer.MAX_VALUE};

    private ReviewsTest() {
    }

    static void run(Check check) {
        behindReturn(check);
        behindAllOut(check);
        behindOtherRaids(check);
        toldAsTouched(check);
        bothSides(check);
        eachTouchOnce(check);
        putRight(check);
        outAfterAll(check);
        outInAnyCase(check);
        backAfterAll(check);
        backInAnyCase(check);
        allElseStays(check);
        statisticsStay(check);
        keptReview(check);
        lostReview(check);
        reviewInEachMatch(check);
        nobodyLeft(check);
        somebodyLeft(check);
        noSuchPlayer(check);
        noSuchSide(check);
        betweenRaids(check);
        endOfTheHalf(check);
        endOfTheMatch(check);
    }

    /** Of 1, 3, 5, 7 and 9 the first four are touched: 1 really and called, 3 really, 5 called, 7 neither. */
    private static Raidline raid() {
        Raidline game = Games.match(6, 5, 1, true, 10);
        game.raid(0);
        game.touch(1, true, true);
        game.touch(3, true, false);
        game.touch(5, false, true);
        game.touch(7, false, false);
        return game;
    }

    private static Raidline pause() {
        Raidline game = raid();
        game.comeBack();
        return game;
    }

    private static void behindReturn(Check check) {
        check.by("Reviews", "Behind a raid that ended by a return");
        check.by("28", "Reviews a touch of the raid before.");
        check.by("28", "the raid before did not end by a return,");
        check.is("behind a return", pause().review(0, 3), true);
        Raidline doOrDie = Games.match(5, 5, 1, true, 10);
        Games.emptyRaids(doOrDie, 4);
        doOrDie.raid(0);
        doOrDie.touch(1, true, false);
        doOrDie.comeBack();
        check.is("behind a return of do or die", doOrDie.review(0, 1), true);
        check.illegalState("behind a caught raider", Games.then(ReviewsTest::raid, x -> x.struggle(7)), x -> x.review(0, 3));
        check.illegalState("behind a raider out of breath", Games.then(() -> Games.strongRaiders(3, 3, true), x -> {
            Games.raid(x);
            x.touch(5, true, false);
            for (int i = 0; i < 6; i++) {
                x.struggle(1);
            }
        }), x -> x.review(0, 5));
        check.illegalState("ahead of all raids", () -> Games.match(5, 5, 1, true, 10), x -> x.review(0, 3));
    }

    /** Side 1 is all out; 5 was touched, not called. */
    private static Raidline allOut() {
        Raidline game = Games.match(3, 3, 1, true, 10);
        game.raid(0);
        game.touch(1, false, true);
        game.touch(3, true, true);
        game.touch(5, true, false);
        game.stepOut(5);
        game.comeBack();
        return game;
    }

    private static void behindAllOut(Check check) {
        check.by("28", "or with an all out");
        check.illegalState("behind an all out", ReviewsTest::allOut, x -> x.review(0, 5));
        check.illegalState("behind an all out, of one who was out", ReviewsTest::allOut, x -> x.review(1, 1));
        Supplier<Raidline> raiders = Games.then(() -> Games.match(3, 3, 1, false, 20), x -> {
            Games.touchRaid(x, 2);
            for (int i = 0; i < 2; i++) {
                Games.emptyRaids(x, 1);
                Games.bonusRaids(x, 1);
            }
            x.raid(5);
            x.touch(0, true, false);
            x.comeBack();
        });
        check.illegalState("behind an all out of the raiders", raiders, x -> x.review(1, 0));
        Raidline y = allOut();
        y.raid(1);
        y.touch(0, true, false);
        y.comeBack();
        check.is("behind the raid behind an all out", y.review(1, 0), true);
    }

    private static void behindOtherRaids(Check check) {
        Supplier<Raidline> next = Games.then(ReviewsTest::pause, x -> Games.emptyRaids(x, 1));
        check.unsupported("a touch of the raid before the raid before", next, x -> x.review(0, 3));
        Raidline y = next.get();
        y.raid(2);
        y.touch(3, true, false);
        y.comeBack();
        check.is("a touch of the raid before", y.review(0, 3), true);
        check.illegalState("a caught raider behind it", Games.then(ReviewsTest::pause, x -> {
            x.raid(3);
            x.struggle(7);
        }), x -> x.review(0, 3));
    }

    private static void toldAsTouched(Check check) {
        check.by("Reviews", "a side can have a touch of it that was told as a touch reviewed,");
        check.by("28", "the player was not told as touched,");
        check.unsupported("one who was not touched", ReviewsTest::pause, x -> x.review(0, 9));
        check.unsupported("the raider", ReviewsTest::pause, x -> x.review(0, 0));
        check.unsupported("one on the bench", ReviewsTest::pause, x -> x.review(0, 11));
        check.unsupported("another raider", ReviewsTest::pause, x -> x.review(1, 2));
        Supplier<Raidline> struggle = Games.then(() -> Games.strongRaiders(4, 4, true), x -> {
            x.raid(0);
            x.touch(1, true, false);
            x.struggle(3);
            x.stepOut(5);
            x.comeBack();
        });
        check.unsupported("one who was touched by a struggle", struggle, x -> x.review(1, 3));
        check.unsupported("one who stepped out", struggle, x -> x.review(1, 5));
        check.is("one who was touched ahead of a struggle", struggle.get().review(0, 1), true);
    }

    private static void bothSides(Check check) {
        check.by("28", "`side`: which side asks, 0 or 1");
        check.is("the raiders ask for a point", pause().review(0, 3), true);
        check.is("the defenders ask for a point of the raiders", pause().review(1, 3), true);
        check.is("the defenders ask for one who is out", pause().review(1, 5), true);
        check.is("the raiders ask for one who is out", pause().review(0, 5), true);
    }

    private static void eachTouchOnce(Check check) {
        check.by("Reviews", "each touch once:");
        check.by("28", "or was reviewed,");
        Supplier<Raidline> right = Games.then(ReviewsTest::pause, x -> x.review(0, 3));
        check.unsupported("twice, put right", right, x -> x.review(0, 3));
        check.unsupported("twice, put right, by the other side", right, x -> x.review(1, 3));
        Supplier<Raidline> back = Games.then(ReviewsTest::pause, x -> x.review(1, 5));
        check.unsupported("twice, back on the mat", back, x -> x.review(1, 5));
        Supplier<Raidline> wrong = Games.then(ReviewsTest::pause, x -> x.review(0, 1));
        check.unsupported("twice, not put right, by the other side", wrong, x -> x.review(1, 1));
        check.is("another touch by the other side", wrong.get().review(1, 3), true);
    }

    private static void putRight(Check check) {
        check.by("Reviews", "if what is called is not what is real, it is put right:");
        check.by("28", "Returns whether it was put right.");
        check.is("real and called", pause().review(0, 1), false);
        check.is("real, not called", pause().review(0, 3), true);
        check.is("called, not real", pause().review(0, 5), true);
        check.is("neither", pause().review(0, 7), false);
    }

    private static void outAfterAll(Check check) {
        check.by("Reviews", "the defender, if on the mat, is out, behind the others,");
        Raidline x = pause();
        check.is("before", Games.mat(x, 1) + "/" + Games.out(x, 1) + " " + Games.points(x), "3 7 9/1 5 2:0");
        x.review(0, 3);
        check.is("behind the others", Games.mat(x, 1) + "/" + Games.out(x, 1) + " " + Games.points(x), "7 9/1 5 3 3:0");
    }

    private static void outInAnyCase(Check check) {
        check.by("Reviews", "and the point is given in any case;");
        Raidline x = pause();
        x.substitute(3, 11);
        check.is("one on the bench", x.review(0, 3) + " " + Games.points(x), "true 3:0");
        check.is("stays there", Games.bench(x, 1) + "/" + Games.out(x, 1), "3/1 5");
        Raidline y = pause();
        y.card(3, 'y');
        check.is("one who sits out", y.review(0, 3) + " " + Games.points(y), "true 3:0");
        check.is("is not out", Games.mat(y, 1) + "/" + Games.out(y, 1), "7 9/1 5");
        Games.bonusRaids(y, 4);
        check.is("until behind 4 raids", Games.out(y, 1), "1 5 3");
        Raidline z = raid();
        z.stepOut(3);
        check.is("one who stepped out", z.comeBack() + " " + z.review(0, 3) + " " + Games.points(z), "3 true 4:0");
        check.is("is out as before", Games.out(z, 1), "3 1 5");
        check.is("each is in one place", z.isTrue(), true);
    }

    private static void backAfterAll(Check check) {
        check.by("Reviews", "or the defender, if out, is back on the mat,");
        Raidline x = pause();
        x.review(1, 5);
        check.is("back by the number", Games.mat(x, 1) + "/" + Games.out(x, 1) + " " + Games.points(x), "3 5 7 9/1 1:0");
        Raidline y = raid();
        y.stepOut(5);
        y.comeBack();
        check.is("one who stepped out", y.review(1, 5) + " " + Games.mat(y, 1) + " " + Games.points(y), "true 3 5 7 9 1:0");
    }

    private static void backInAnyCase(Check check) {
        check.by("Reviews", "and the point is taken in any case;");
        Raidline x = pause();
        x.card(5, 'y');
        check.is("one who sits out", x.review(1, 5) + " " + Games.points(x), "true 1:0");
        check.is("is not back", Games.mat(x, 1) + "/" + Games.out(x, 1), "3 7 9/1");
        Raidline y = pause();
        y.card(5, 'r');
        check.is("one with a red card", y.review(1, 5) + " " + Games.points(y), "true 1:0");
        check.is("is not back", Games.mat(y, 1) + "/" + Games.out(y, 1), "3 7 9/1");
        check.is("each is in one place", y.isTrue(), true);
    }

    private static void allElseStays(Check check) {
        check.by("Reviews", "all else stays, statistics too.");
        Raidline x = Games.match(5, 5, 1, true, 10);
        Games.emptyRaids(x, 4);
        x.raid(0);
        x.touch(1, true, false);
        x.comeBack();
        x.review(0, 1);
        check.is("the raider of do or die stays out", Games.out(x, 0), "0");
        check.is("the point of it stays", Games.points(x), "1:1");
        check.is("a raid that was empty stays so", x.emptyShare(), 1.0f);
        Raidline y = Games.match(5, 5, 1, true, 10);
        Games.touchRaid(y, 2);
        y.raid(5);
        y.touch(0, false, true);
        y.comeBack();
        y.review(0, 0);
        check.is("who was revived stays so", Games.mat(y, 1) + "/" + Games.out(y, 1), "1 5 7 9/3");
        y.raid(0);
        y.touch(5, true, false);
        y.comeBack();
        y.review(1, 5);
        check.is("nobody is revived by a review", Games.out(y, 1), "3 5");
        check.is("a raid counts as empty", isDoOrDieBehindReview(), true);
    }

    /** Two raids of side 0 without a point at the return, the second one with a touch that is put right. */
    private static boolean isDoOrDieBehindReview() {
        Raidline x = Games.match(5, 5, 1, true, 10);
        Games.emptyRaids(x, 1);
        Games.bonusRaids(x, 1);
        x.raid(0);
        x.touch(1, true, false);
        x.comeBack();
        x.review(0, 1);
        Games.bonusRaids(x, 1);
        return x.raid(0);
    }

    private static void statisticsStay(Check check) {
        Raidline x = Games.match(5, 5, 1, true, 10);
        x.raid(0);
        x.touch(1, true, true);
        x.touch(3, true, true);
        x.touch(5, true, false);
        x.comeBack();
        x.review(0, 5);
        check.is("two touches at the return", x.told(0, 'r') + " " + x.told(0, 's') + " " + x.meanPoints(), "2 0 2.0");
        check.is("three points", Games.points(x), "3:0");
        Raidline y = Games.match(5, 5, 1, true, 10);
        y.raid(0);
        y.touch(1, true, true);
        y.touch(3, true, true);
        y.touch(5, false, true);
        y.comeBack();
        y.review(0, 5);
        check.is("three touches at the return", y.told(0, 'r') + " " + y.told(0, 's') + " " + y.meanPoints(), "3 1 3.0");
        check.is("two points", Games.points(y), "2:0");
    }

    private static void keptReview(Check check) {
        check.by("Reviews", "The side keeps its review then;");
        Raidline x = pause();
        check.is("the first review", x.review(0, 3), true);
        check.is("the second review", x.review(0, 5), true);
        check.is("the third review", x.review(0, 1), false);
        Raidline y = pause();
        y.review(1, 5);
        Games.bonusRaids(y, 1);
        y.raid(0);
        y.touch(3, false, true);
        y.comeBack();
        check.is("a review behind a later raid", y.review(1, 3), true);
    }

    private static void lostReview(Check check) {
        check.by("Reviews", "otherwise it is lost.");
        check.by("28", "Throws `UnsupportedOperationException` if the side has no review,");
        Supplier<Raidline> called = Games.then(ReviewsTest::pause, x -> x.review(0, 1));
        check.unsupported("behind a touch that was real", called, x -> x.review(0, 3));
        Supplier<Raidline> neither = Games.then(ReviewsTest::pause, x -> x.review(0, 7));
        check.unsupported("behind a touch that was not real", neither, x -> x.review(0, 3));
        check.is("the other side has its own", called.get().review(1, 3), true);
        Supplier<Raidline> both = Games.then(called, x -> x.review(1, 7));
        check.unsupported("the other side has lost its own", both, x -> x.review(1, 3));
        Supplier<Raidline> later = Games.then(called, x -> {
            Games.bonusRaids(x, 1);
            x.raid(0);
            x.touch(3, true, false);
            x.comeBack();
        });
        check.unsupported("behind a later raid", later, x -> x.review(0, 3));
        check.is("the other side there", later.get().review(1, 3), true);
    }

    private static void reviewInEachMatch(Check check) {
        Raidline x = Games.match(3, 3, 1, true, 2);
        Games.touchRaid(x, 2);
        check.is("lost by both sides", x.review(0, 1) || x.review(1, 3), false);
        Games.playOut(x);
        x.begin(0, 1, false);
        x.raid(0);
        x.touch(1, true, false);
        x.touch(3, false, true);
        x.comeBack();
        check.is("a new one for the first side", x.review(0, 1), true);
        check.is("a new one for the other side", x.review(1, 3), true);
    }

    /** Of 1, 3 and 5 two are out; 5 was touched, but it was not called. */
    private static Supplier<Raidline> oneStands(boolean isReal) {
        return Games.then(() -> Games.match(4, 3, 1, true, 10), x -> {
            x.raid(0);
            x.touch(1, true, true);
            x.touch(3, false, true);
            x.touch(5, isReal, false);
            x.comeBack();
        });
    }

    private static void nobodyLeft(Check check) {
        check.by("28", "or nobody would be left on the mat");
        check.unsupported("the last one would be out", oneStands(true), x -> x.review(0, 5));
        check.unsupported("the other side asks", oneStands(true), x -> x.review(1, 5));
        check.is("the last one stays by right", oneStands(false).get().review(0, 5), false);
        Raidline y = oneStands(true).get();
        y.review(1, 3);
        check.is("one of two would be out", y.review(0, 5) + " " + Games.mat(y, 1), "true 3");
    }

    private static void somebodyLeft(Check check) {
        Raidline x = oneStands(true).get();
        x.substitute(5, 7);
        check.is("the last one is another one", x.review(0, 5) + " " + Games.mat(x, 1) + " " + Games.points(x), "true 7 3:0");
        check.is("one who is out, while one stands", oneStands(true).get().review(0, 1), false);
        Raidline y = Games.match(3, 3, 1, true, 10);
        y.raid(0);
        y.touch(1, true, true);
        y.touch(3, true, false);
        y.comeBack();
        check.is("one of two", y.review(0, 3) + " " + Games.mat(y, 1), "true 5");
    }

    private static void noSuchPlayer(Check check) {
        check.by("28", "Throws `IndexOutOfBoundsException` if there is no such player");
        int[] players = {12, 40, -1, Integer.MIN_VALUE, Integer.MAX_VALUE};
        for (int player : players) {
            check.outOfBounds("review of " + player, ReviewsTest::pause, x -> x.review(0, player));
        }
    }

    private static void noSuchSide(Check check) {
        check.by("28", "Throws `IllegalArgumentException` if there is no such side");
        for (int side : NO_SIDES) {
            check.illegalArgument("review of side " + side, ReviewsTest::pause, x -> x.review(side, 3));
        }
    }

    private static void betweenRaids(Check check) {
        check.by("28", "Throws `IllegalStateException` if no match goes on, a raid does, or");
        check.illegalState("without a match", () -> Games.squads(2, 3, 5, 5, 5), x -> x.review(0, 1));
        check.illegalState("in the raid", ReviewsTest::raid, x -> x.review(0, 3));
        check.illegalState("in the next raid", Games.then(ReviewsTest::pause, Games::raid), x -> x.review(0, 3));
    }

    /** Side 1 raids at the end of the first half, and at the beginning of the second one. */
    private static void endOfTheHalf(Check check) {
        for (int before = 1; before <= 2; before++) {
            Raidline x = Games.match(4, 4, 1, true, 2);
            Games.bonusRaids(x, before);
            x.raid(1);
            x.touch(0, true, false);
            x.touch(2, false, true);
            x.comeBack();
            int points = x.points(1);
            check.is("put right", x.review(0, 0) + " " + Games.mat(x, 0) + "/" + Games.out(x, 0), "true 4 6/2 0");
            check.is("a point of the raiders", x.points(1), points + 1);
            check.is("put right", x.review(1, 2) + " " + Games.mat(x, 0) + "/" + Games.out(x, 0), "true 2 4 6/0");
            check.is("a point of the raiders less", x.points(1), points);
            check.is("the others' points", x.points(0), 1);
        }
        Raidline y = Games.squads(2, 4, 5, 5, 5);
        y.edition(4, 1, true, 2);
        y.begin(0, 1, true);
        Games.bonusRaids(y, 3);
        y.raid(0);
        y.touch(1, false, true);
        y.comeBack();
        check.is("ahead of the extra raids", Games.points(y) + " " + y.goesOn(), "2:2 true");
        check.is("put right", y.review(1, 1) + " " + Games.mat(y, 1) + " " + Games.points(y), "true 1 3 5 7 1:2");
        check.is("the extra raids come all the same", y.goesOn() + " " + y.turn(), "true 0");
    }

    private static void endOfTheMatch(Check check) {
        Supplier<Raidline> over = Games.then(() -> Games.match(3, 3, 1, true, 2), x -> {
            Games.bonusRaids(x, 3);
            x.raid(0);
            x.touch(1, true, false);
            x.comeBack();
        });
        check.illegalState("behind the last raid", over, x -> x.review(0, 1));
        check.illegalState("in the next match", Games.then(over, x -> x.begin(0, 1, false)), x -> x.review(0, 1));
    }
}

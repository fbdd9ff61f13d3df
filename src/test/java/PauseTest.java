/** Promises 26 to 28: cards, substitutes and reviews. */
final class PauseTest {
    private PauseTest() {
    }

    static void run(Check check) {
        greenCards(check);
        yellowCards(check);
        yellowByTurns(check);
        backByAllOut(check);
        redCards(check);
        lastOne(check);
        cardOrder(check);
        substitutes(check);
        substituteOrder(check);
        reviews(check);
        reviewsOfCalledTouches(check);
        reviewOrder(check);
        reviewInAnyCase(check);
        reviewOfTheLastOne(check);
        reviewKeepsStatistics(check);
    }

    private static void greenCards(Check check) {
        Raidline x = Games.match(4, 4, 1, true, 10);
        check.is("green", x.card(1, 'g'), 'g');
        check.is("nobody leaves", x.onMat(1), 4);
        check.is("green of another one", x.card(3, 'g'), 'g');
        check.is("green, which is yellow", x.card(1, 'g'), 'y');
        check.is("who leaves", Games.mat(x, 1), "3 5 7");
        for (int i = 0; i < 4; i++) {
            check.is("sits out", x.onMat(1), 3);
            Games.emptyRaid(x);
        }
        check.is("is out then", Games.out(x, 1), "1");
        Raidline y = Games.match(3, 3, 1, true, 2);
        y.card(0, 'g');
        for (int i = 0; i < 4; i++) {
            Games.emptyRaid(y);
        }
        y.begin(0, 1, false);
        check.is("anew in each match", y.card(0, 'g'), 'g');
        check.is("then yellow", y.card(0, 'g'), 'y');
    }

    private static void yellowCards(Check check) {
        Raidline x = Games.match(5, 5, 1, true, 10);
        Games.touchRaid(x, 2);
        check.is("one out gets yellow", x.card(1, 'y'), 'y');
        check.is("and is not out", Games.out(x, 1), "3");
        check.is("yellow on the mat", x.card(0, 'y'), 'y');
        check.is("not on the mat", Games.mat(x, 0), "2 4 6 8");
        check.is("nor out", Games.out(x, 0), "");
        check.isUnsupported("who sits out gets no card", () -> x.card(0, 'g'));
        check.isUnsupported("nor is raiding", () -> x.substitute(0, 2));
        Games.emptyRaid(x);
        Games.emptyRaid(x);
        Games.emptyRaid(x);
        check.is("three raids", Games.out(x, 0) + "/" + Games.out(x, 1), "/3");
        x.raid(x.matAt(0, 0));
        x.touch(5, true, true);
        x.touch(7, true, true);
        x.comeBack();
        check.is("four raids: behind all others", Games.out(x, 1), "3 5 7 1");
        check.is("not revived by outs of that raid", Games.out(x, 0), "0");
        check.is("a card once more", x.card(0, 'y'), 'y');
        check.is("everybody is somewhere", x.isTrue(), true);
    }

    private static void yellowByTurns(Check check) {
        Raidline x = Games.match(3, 3, 1, false, 10);
        Games.bonusRaid(x);
        x.card(1, 'y');
        for (int i = 0; i < 3; i++) {
            Games.bonusRaid(x);
            check.is("sits out raids of both squads", Games.out(x, 1), "");
        }
        Games.bonusRaid(x);
        check.is("is out behind the fourth", Games.out(x, 1), "1");
        x.card(1, 'y');
        for (int i = 0; i < 4; i++) {
            check.is("sits out once more", Games.out(x, 1), "");
            Games.bonusRaid(x);
        }
        check.is("is out once more", Games.out(x, 1), "1");
        Raidline y = Games.match(5, 5, 1, false, 10);
        y.card(5, 'y');
        y.card(1, 'y');
        Games.bonusRaid(y);
        y.card(3, 'y');
        for (int i = 0; i < 4; i++) {
            Games.bonusRaid(y);
        }
        check.is("those of one raid by rising numbers, a later one behind", Games.out(y, 1), "1 5 3");
    }

    private static void backByAllOut(Check check) {
        Raidline x = Games.match(3, 3, 1, false, 10);
        Games.bonusRaid(x);
        x.card(3, 'y');
        Games.bonusRaid(x);
        Games.bonusRaid(x);
        Games.bonusRaid(x);
        int before = x.points(0);
        x.raid(0);
        x.touch(1, true, true);
        x.touch(5, true, true);
        x.comeBack();
        check.is("two and an all out", x.points(0) - before, 4);
        check.is("the one who sat out comes back too", Games.mat(x, 1), "1 3 5");
        Raidline y = Games.match(3, 3, 1, false, 10);
        y.card(3, 'y');
        y.raid(0);
        y.touch(1, true, true);
        y.touch(5, true, true);
        y.comeBack();
        check.is("who sits out does not", Games.mat(y, 1), "1 5");
    }

    private static void redCards(Check check) {
        Raidline x = Games.match(3, 3, 1, true, 20);
        check.is("red", x.card(1, 'r'), 'r');
        check.is("leaves", Games.mat(x, 1), "3 5");
        for (int i = 0; i < 38; i++) {
            Games.bonusRaid(x);
            check.is("for the match", Games.mat(x, 1) + Games.out(x, 1), "3 5");
        }
        Raidline y = Games.match(3, 3, 1, true, 2);
        y.card(1, 'r');
        for (int i = 0; i < 4; i++) {
            Games.emptyRaid(y);
        }
        y.begin(0, 1, false);
        check.is("back in the next match", Games.mat(y, 1), "1 3 5");
    }

    private static void lastOne(Check check) {
        Raidline x = Games.match(3, 3, 1, true, 10);
        x.card(0, 'r');
        x.card(2, 'r');
        check.isUnsupported("yellow for the last one", () -> x.card(4, 'y'));
        check.isUnsupported("red for the last one", () -> x.card(4, 'r'));
        check.is("green for the last one", x.card(4, 'g'), 'g');
        check.isUnsupported("green, which is yellow, for the last one", () -> x.card(4, 'g'));
        check.is("still there", Games.mat(x, 0), "4");
        check.is("two on the other side", x.card(1, 'r'), 'r');
        Raidline y = Games.match(3, 3, 1, true, 10);
        Games.touchRaid(y, 2);
        check.is("one out is not the last one on the mat", y.card(1, 'y'), 'y');
        check.isUnsupported("but this one is", () -> y.card(5, 'y'));
    }

    private static void cardOrder(Check check) {
        Raidline x = Games.match(4, 3, 1, true, 10);
        Raidline none = Games.squads(2, 3, 5, 5, 5);
        check.isOutOfBounds("card(-1)", () -> x.card(-1, 'g'));
        check.isOutOfBounds("card(8), ahead of no such card", () -> x.card(8, 'x'));
        char[] wrong = {'G', 'x', (char) 0, 'a'};
        for (char card : wrong) {
            check.isIllegalArgument("card " + (int) card, () -> x.card(0, card));
        }
        check.isIllegalArgument("no such card, ahead of no match", () -> none.card(0, 'x'));
        check.isIllegalState("no match", () -> none.card(0, 'g'));
        check.isUnsupported("one on the bench", () -> x.card(6, 'g'));
        x.raid(0);
        check.isIllegalState("in a raid", () -> x.card(1, 'g'));
        check.isIllegalState("in a raid, ahead of one on the bench", () -> x.card(6, 'g'));
        check.isIllegalArgument("no such card, ahead of a raid", () -> x.card(1, 'x'));
        x.comeBack();
        check.is("what throws changes nothing", x.card(1, 'g'), 'g');
        Raidline y = Games.squads(3, 3, 5, 5, 5);
        y.edition(3, 1, true, 2);
        y.begin(0, 1, false);
        check.isUnsupported("one of a third squad", () -> y.card(2, 'g'));
    }

    private static void substitutes(Check check) {
        Raidline x = Games.match(5, 3, 1, true, 10);
        check.is("first", x.substitute(2, 8), 1);
        check.is("the mat", Games.mat(x, 0), "0 4 8");
        check.is("the bench", Games.bench(x, 0), "6 2");
        check.is("second", x.substitute(0, 6), 2);
        check.is("the mat, by rising numbers", Games.mat(x, 0), "4 6 8");
        check.is("the bench, behind the others", Games.bench(x, 0), "2 0");
        check.is("the other side counts by itself", x.substitute(1, 9), 1);
        check.is("third", x.substitute(8, 0), 3);
        check.is("fourth", x.substitute(0, 8), 4);
        check.is("fifth", x.substitute(8, 0), 5);
        check.isUnsupported("sixth", () -> x.substitute(0, 8));
        check.is("the mat stays", Games.mat(x, 0), "0 4 6");
        check.is("a substitute raids", x.raid(6), false);
        x.comeBack();
        for (int i = 1; i < 20; i++) {
            Games.bonusRaid(x);
        }
        x.begin(0, 1, false);
        check.is("five in each match", x.substitute(0, 6), 1);
    }

    private static void substituteOrder(Check check) {
        Raidline x = Games.match(4, 3, 1, true, 10);
        Raidline none = Games.squads(2, 4, 5, 5, 5);
        check.isOutOfBounds("substitute(8, 0)", () -> x.substitute(8, 0));
        check.isOutOfBounds("substitute(0, 8)", () -> x.substitute(0, 8));
        check.isOutOfBounds("substitute(-1, -1), ahead of no match", () -> none.substitute(-1, -1));
        check.isIllegalState("no match", () -> none.substitute(0, 6));
        check.isUnsupported("who goes is on the bench", () -> x.substitute(6, 6));
        check.isUnsupported("who comes is on the mat", () -> x.substitute(0, 2));
        check.isUnsupported("who comes is on the other bench", () -> x.substitute(0, 7));
        check.isUnsupported("the same one", () -> x.substitute(0, 0));
        Games.touchRaid(x, 1);
        check.isUnsupported("who goes is out", () -> x.substitute(1, 7));
        x.raid(3);
        check.isIllegalState("in a raid", () -> x.substitute(0, 6));
        check.isIllegalState("in a raid, ahead of the wrong ones", () -> x.substitute(6, 6));
        x.comeBack();
        check.is("what throws changes nothing", x.substitute(0, 6), 1);
    }

    private static void reviews(Check check) {
        Raidline x = Games.match(5, 5, 1, true, 10);
        x.raid(0);
        x.touch(1, true, false);
        x.touch(3, false, false);
        x.touch(5, true, true);
        x.comeBack();
        check.is("one out", Games.out(x, 1), "5");
        check.is("put right", x.review(0, 1), true);
        check.is("out, behind the others", Games.out(x, 1), "5 1");
        check.is("the point is given", x.points(0), 2);
        check.isUnsupported("each touch once", () -> x.review(0, 1));
        check.isUnsupported("each touch once, for both", () -> x.review(1, 1));
        check.is("not put right", x.review(0, 3), false);
        check.isUnsupported("the review is lost", () -> x.review(0, 5));
        check.is("the other side has its own", x.review(1, 5), false);
        check.isUnsupported("which is lost too", () -> x.review(1, 3));
        check.is("all else stays", x.points(0), 2);
        check.is("all else stays", Games.mat(x, 1), "3 7 9");
        Games.touchRaid(x, 1);
        check.isUnsupported("lost for the match", () -> x.review(0, 0));
        check.is("two out revive nobody by a review", Games.out(x, 1), "1");
        Raidline y = Games.match(5, 5, 1, true, 2);
        y.raid(0);
        y.touch(1, true, true);
        y.comeBack();
        y.review(0, 1);
        for (int i = 1; i < 4; i++) {
            Games.bonusRaid(y);
        }
        y.begin(0, 1, false);
        y.raid(0);
        y.touch(1, true, false);
        y.comeBack();
        check.is("a review in each match", y.review(0, 1), true);
    }

    private static void reviewsOfCalledTouches(Check check) {
        Raidline x = Games.match(5, 5, 1, true, 10);
        x.raid(0);
        x.touch(5, false, true);
        x.touch(3, false, true);
        x.touch(1, true, true);
        x.comeBack();
        check.is("three out", Games.out(x, 1), "1 3 5");
        check.is("put right", x.review(1, 3), true);
        check.is("back on the mat", Games.mat(x, 1), "3 7 9");
        check.is("no longer out", Games.out(x, 1), "1 5");
        check.is("the point is taken", x.points(0), 2);
        check.is("the review is kept", x.review(1, 5), true);
        check.is("back by rising numbers", Games.mat(x, 1), "3 5 7 9");
        check.is("points", x.points(0), 1);
    }

    private static void reviewOrder(Check check) {
        Raidline x = Games.match(5, 5, 1, true, 10);
        Raidline none = Games.squads(2, 5, 5, 5, 5);
        check.isOutOfBounds("no such player, ahead of no such side", () -> x.review(2, 10));
        check.isOutOfBounds("review(0, -1)", () -> x.review(0, -1));
        check.isIllegalArgument("no such side, ahead of no match", () -> none.review(2, 0));
        check.isIllegalArgument("review(-1, 0)", () -> x.review(-1, 0));
        check.isIllegalState("no match", () -> none.review(0, 0));
        check.isIllegalState("no raid before", () -> x.review(0, 1));
        x.raid(0);
        x.touch(1, true, false);
        check.isIllegalState("in a raid", () -> x.review(0, 1));
        x.struggle(14);
        check.isIllegalState("a caught raider", () -> x.review(0, 1));
        x.raid(1);
        x.touch(2, true, false);
        x.comeBack();
        check.isUnsupported("not touched", () -> x.review(0, 4));
        check.isUnsupported("not touched: the raider", () -> x.review(0, 1));
        x.raid(2);
        check.isIllegalState("in the next raid", () -> x.review(0, 2));
        x.comeBack();
        check.isUnsupported("the raid before the raid before", () -> x.review(0, 2));
        Raidline y = Games.match(3, 3, 1, true, 2);
        for (int i = 0; i < 3; i++) {
            Games.bonusRaid(y);
        }
        y.raid(0);
        y.touch(1, true, false);
        y.comeBack();
        check.isIllegalState("behind the last raid no match goes on", () -> y.review(0, 1));
        y.begin(0, 1, false);
        check.isIllegalState("a raid of the match before", () -> y.review(0, 1));
    }

    private static void reviewInAnyCase(Check check) {
        Raidline x = Games.match(5, 4, 1, true, 10);
        x.raid(0);
        x.touch(1, true, false);
        x.touch(3, false, true);
        x.comeBack();
        x.substitute(1, 9);
        check.is("one who has gone", x.review(0, 1), true);
        check.is("the point is given in any case", x.points(0), 2);
        check.is("on the bench", Games.bench(x, 1), "1");
        check.is("not out", Games.out(x, 1), "3");
        x.card(3, 'y');
        check.is("one who sits out", x.review(1, 3), true);
        check.is("the point is taken in any case", x.points(0), 1);
        check.is("still sits out", Games.mat(x, 1), "5 7 9");
        check.is("everybody is somewhere", x.isTrue(), true);
        Raidline y = Games.match(5, 4, 1, true, 10);
        y.raid(0);
        y.touch(1, true, false);
        y.stepOut(1);
        y.touch(3, false, true);
        y.stepOut(3);
        check.is("two steps out", y.comeBack(), 2);
        check.is("a touch of one who stepped out", y.review(0, 1), true);
        check.is("the point is given in any case", y.points(0), 3);
        check.is("out as before", Games.out(y, 1), "1 3");
        check.is("another one", y.review(1, 3), true);
        check.is("if out, is back", Games.mat(y, 1), "3 5 7");
        check.is("the point is taken", y.points(0), 2);
    }

    private static void reviewOfTheLastOne(Check check) {
        Raidline x = Games.match(3, 3, 1, true, 10);
        x.raid(0);
        x.touch(1, true, true);
        x.touch(3, true, true);
        x.touch(5, true, false);
        x.comeBack();
        check.isUnsupported("nobody would be left", () -> x.review(0, 5));
        check.is("points stay", x.points(0), 2);
        check.is("the review is kept", x.review(0, 1), false);
        Raidline y = Games.match(3, 3, 1, true, 10);
        y.raid(0);
        y.touch(1, true, true);
        y.touch(3, true, true);
        y.touch(5, false, false);
        y.comeBack();
        check.is("the last one, rightly not called", y.review(0, 5), false);
    }

    private static void reviewKeepsStatistics(Check check) {
        Raidline x = Games.match(5, 5, 1, true, 10);
        for (int i = 0; i < 4; i++) {
            Games.emptyRaid(x);
        }
        x.raid(0);
        x.touch(1, true, false);
        x.comeBack();
        check.is("a do or die raid", Games.out(x, 0), "0");
        check.is("ended by a return", x.review(0, 1), true);
        check.is("the point is given", x.points(0), 1);
        check.is("the raider stays out", Games.out(x, 0), "0");
        check.is("the raid stays empty", x.emptyShare(), 1.0f);
        check.is("the mean stays", x.meanPoints(), 1.0 / 5.0);
        check.is("raid points stay", x.told(0, 'r'), 0);
        Raidline y = Games.match(5, 5, 1, true, 10);
        Games.touchRaid(y, 3);
        check.is("a super raid", y.told(0, 's') * 10 + y.told(0, 'r'), 13);
        check.is("a touch that was real", y.review(1, 1), false);
        y.raid(7);
        y.touch(0, false, true);
        y.touch(2, true, true);
        y.touch(4, true, true);
        y.comeBack();
        check.is("put right", y.review(0, 0), true);
        check.is("a super raid, as at the return", y.told(7, 's') * 10 + y.told(7, 'r'), 13);
        check.is("the mean stays", y.meanPoints(), 3.0);
        check.is("the points do not", y.points(1), 2);
    }
}

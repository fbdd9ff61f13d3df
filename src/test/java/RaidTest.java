/** Promises 20 to 25: what happens in a raid. */
final class RaidTest {
    private RaidTest() {
    }

    static void run(Check check) {
        beginning(check);
        touches(check);
        calledTouches(check);
        bonuses(check);
        struggles(check);
        struggleBits(check);
        caught(check);
        struggleMarks(check);
        stepsOut(check);
        returns(check);
        breath(check);
        breathKeepsPoints(check);
    }

    private static void beginning(Check check) {
        Raidline x = Games.match(4, 3, 1, true, 4);
        check.isOutOfBounds("raid(-1)", () -> x.raid(-1));
        check.isOutOfBounds("raid(8)", () -> x.raid(8));
        check.isUnsupported("a raider of the other side", () -> x.raid(1));
        check.isUnsupported("a raider from the bench", () -> x.raid(6));
        check.is("not do or die", x.raid(4), false);
        check.isIllegalState("a raid goes on", () -> x.raid(0));
        check.isIllegalState("a raid goes on, ahead of the wrong side", () -> x.raid(1));
        check.isOutOfBounds("no such player, ahead of a raid", () -> x.raid(8));
        check.is("the raider stands on the mat", Games.mat(x, 0), "0 2 4");
        x.touch(1, true, true);
        x.comeBack();
        check.isUnsupported("a raider who is out", () -> x.raid(1));
        check.is("the next one", x.raid(3), false);
        Raidline y = Games.squads(2, 3, 5, 5, 5);
        check.isIllegalState("no match", () -> y.raid(0));
    }

    private static void touches(Check check) {
        Raidline x = Games.match(5, 4, 1, true, 4);
        check.isIllegalState("touch without a raid", () -> x.touch(1, true, true));
        check.isOutOfBounds("no such player, ahead of no raid", () -> x.touch(10, true, true));
        check.isOutOfBounds("touch(-1)", () -> x.touch(-1, true, true));
        x.raid(0);
        check.is("3 seconds", x.touch(5, true, true), 3);
        check.isUnsupported("touched twice", () -> x.touch(5, true, true));
        check.isUnsupported("a raider is touched", () -> x.touch(2, true, true));
        check.isUnsupported("one on the bench is touched", () -> x.touch(9, true, true));
        check.is("6 seconds", x.touch(3, false, false), 6);
        check.isUnsupported("touched twice, not called", () -> x.touch(3, true, true));
        x.stepOut(7);
        check.isUnsupported("one who stepped out is touched", () -> x.touch(7, true, true));
        check.is("nobody is out by a touch yet", Games.out(x, 1), "7");
        check.is("no points by a touch yet", x.points(0), 1);
        x.comeBack();
        check.is("out by a touch", Games.out(x, 1), "7 5");
        Raidline y = new Raidline();
        y.squad();
        y.squad();
        for (int i = 0; i < 6; i++) {
            y.player(5, i == 0 ? 6 : i == 2 ? 7 : 9, 5, 'c');
        }
        Games.dealOut(y, 2, 6);
        y.edition(3, 1, true, 4);
        y.begin(0, 1, false);
        y.raid(0);
        check.is("3 seconds with speed 6", y.touch(1, true, true), 3);
        y.comeBack();
        y.raid(3);
        y.comeBack();
        y.raid(2);
        check.is("2 seconds with speed 7", y.touch(3, true, true), 2);
        check.is("struggles are not quicker", y.struggle(1), 7);
        check.is("a bonus is not quicker", y.bonus(), 11);
    }

    private static void calledTouches(Check check) {
        Raidline x = Games.match(4, 4, 1, true, 4);
        x.raid(0);
        x.touch(7, false, true);
        x.touch(3, true, false);
        x.touch(1, true, true);
        check.is("what is called counts", x.comeBack(), 2);
        check.is("out by rising numbers", Games.out(x, 1), "1 7");
        check.is("the mat", Games.mat(x, 1), "3 5");
        check.is("points", x.points(0), 2);
    }

    private static void bonuses(Check check) {
        Raidline x = Games.match(4, 4, 3, true, 4);
        check.isIllegalState("bonus without a raid", x::bonus);
        x.raid(0);
        check.is("4 seconds", x.bonus(), 4);
        check.is("a point at once", x.points(0), 1);
        check.isUnsupported("once in a raid", x::bonus);
        x.touch(1, true, true);
        x.touch(3, true, true);
        check.is("it counts at the return", x.comeBack(), 3);
        check.is("points", x.points(0), 3);
        x.raid(5);
        check.is("in the next raid again", x.bonus(), 4);
        x.comeBack();
        x.raid(0);
        check.isUnsupported("too few defenders", x::bonus);
        x.comeBack();
        Raidline y = Games.match(4, 4, 4, true, 4);
        y.raid(0);
        y.stepOut(1);
        check.is("as the raid began", y.bonus(), 4);
        y.comeBack();
        y.raid(3);
        y.comeBack();
        y.raid(0);
        check.isUnsupported("3 of 4", y::bonus);
    }

    private static void struggles(Check check) {
        Raidline x = new Raidline();
        x.squad();
        x.squad();
        x.player(4, 3, 1, 'c');
        x.player(1, 1, 9, 'c');
        x.player(4, 4, 1, 'c');
        x.player(1, 1, 1, 'c');
        x.player(9, 9, 1, 'c');
        x.player(1, 1, 1, 'c');
        Games.dealOut(x, 2, 6);
        x.edition(3, 1, true, 4);
        x.begin(0, 1, false);
        check.isIllegalState("struggle without a raid", () -> x.struggle(1));
        x.raid(0);
        check.is("10 against 9", x.struggle(1), 5);
        check.is("10 against 1 + 1 + 2", x.struggle(6), 10);
        check.is("10 against 9 + 1 + 2", x.struggle(3), -1);
        check.is("the raider is out", Games.out(x, 0), "0");
        check.is("it ends the raid", x.raids(), 1);
        check.is("a super tackle", x.points(1), 2);
        check.is("touches count for nothing", x.points(0), 0);
        check.is("nobody else is out", Games.mat(x, 1), "1 3 5");
        x.raid(1);
        x.comeBack();
        x.raid(2);
        check.is("12 against 9 + 1 + 2", x.struggle(3), 5);
        check.is("12 against 9 + 1 + 1 + 4", x.struggle(7), -1);
    }

    private static void struggleBits(Check check) {
        Raidline x = Games.match(7, 7, 1, true, 4);
        check.isIllegalState("no raid, ahead of none", () -> x.struggle(0));
        x.raid(0);
        int[] wrong = {0, 15, 127, 128, 129, 64 | 32 | 16 | 8, -1, Integer.MIN_VALUE, 1 << 30, Integer.MIN_VALUE | 1};
        for (int bits : wrong) {
            check.isIllegalArgument("struggle " + bits, () -> x.struggle(bits));
        }
        check.is("the last one", x.struggle(64), 5);
        x.stepOut(1);
        check.isIllegalArgument("behind a step out there is no seventh", () -> x.struggle(64));
        check.is("the order on the mat", x.struggle(1), 10);
        check.is("both", x.comeBack(), 3);
        check.is("out: 1 by a step, 3 and 13 by struggles", Games.out(x, 1), "1 3 13");
    }

    private static void caught(Check check) {
        Raidline x = Games.squads(2, 5, 1, 1, 9);
        x.edition(5, 1, true, 4);
        x.begin(0, 1, false);
        x.raid(0);
        x.touch(1, true, true);
        x.bonus();
        x.stepOut(9);
        x.stepOut(7);
        check.is("caught", x.struggle(2), -1);
        check.is("one point, for 5 stood there as the raid began", x.points(1), 1);
        check.is("the bonus and steps out count", x.points(0), 3);
        check.is("a step out brought the raider back", Games.mat(x, 0), "0 2 4 6 8");
        check.is("and the raider's out brought one back", Games.mat(x, 1), "1 3 5 9");
        check.is("the other one is out", Games.out(x, 1), "7");
        check.is("the tackler's points", x.told(3, 't'), 1);
        check.is("not of those who were not in it", x.told(1, 't'), 0);
        check.isIllegalState("the raid is over", x::comeBack);
    }

    private static void struggleMarks(Check check) {
        Raidline x = Games.squads(2, 4, 9, 9, 1);
        x.edition(4, 1, true, 4);
        x.begin(0, 1, false);
        x.raid(0);
        x.touch(1, true, false);
        x.struggle(7);
        check.isUnsupported("touched by a struggle", () -> x.touch(3, true, true));
        check.is("those not touched yet, called or not, as called", x.comeBack(), 2);
        check.is("the one whose touch is not called stays", Games.mat(x, 1), "1 7");
        check.isUnsupported("a struggle is not told as a touch", () -> x.review(0, 3));
        check.is("a touch is", x.review(0, 1), true);
    }

    private static void stepsOut(Check check) {
        Raidline x = Games.match(4, 3, 1, true, 4);
        check.isIllegalState("stepOut without a raid", () -> x.stepOut(1));
        check.isOutOfBounds("no such player, ahead of no raid", () -> x.stepOut(8));
        check.isOutOfBounds("stepOut(-1)", () -> x.stepOut(-1));
        x.raid(0);
        check.isUnsupported("of the raiders", () -> x.stepOut(2));
        check.isUnsupported("of the bench", () -> x.stepOut(7));
        x.touch(3, true, true);
        check.is("two stand there then", x.stepOut(3), 2);
        check.is("out at once", Games.out(x, 1), "3");
        check.is("a point at once", x.points(0), 1);
        check.isUnsupported("once only", () -> x.stepOut(3));
        check.is("one then", x.stepOut(1), 1);
        check.is("none then", x.stepOut(5), 0);
        check.isIllegalArgument("nobody to struggle with", () -> x.struggle(1));
        check.is("a touch of one who stepped out is no second point", x.comeBack(), 3);
        check.is("with an all out", x.points(0), 5);
        check.is("all are back", Games.mat(x, 1), "1 3 5");
    }

    private static void returns(Check check) {
        Raidline x = Games.match(4, 4, 1, true, 4);
        check.isIllegalState("comeBack without a raid", x::comeBack);
        check.isIllegalState("comeBack without a match", () -> new Raidline().comeBack());
        x.raid(0);
        check.is("an empty raid", x.comeBack(), 0);
        check.isIllegalState("comeBack twice", x::comeBack);
        x.raid(1);
        x.bonus();
        x.stepOut(0);
        x.touch(2, false, true);
        check.is("touches, bonus and steps out", x.comeBack(), 3);
        check.is("points of side 1", x.points(1), 3);
        x.raid(4);
        x.stepOut(1);
        x.stepOut(3);
        x.stepOut(5);
        check.is("an all out is not among them", x.stepOut(7) + x.comeBack(), 4);
        check.is("but among the points", x.points(0), 6);
    }

    /** A raid with 27 seconds: three touches of 3, the bonus and struggles of 5, less where they do not fit. */
    private static Raidline longRaid(int touches, int struggles, boolean hasBonus) {
        Raidline x = Games.squads(2, 7, 9, 6, 1);
        x.edition(7, 1, true, 4);
        x.begin(0, 1, false);
        x.raid(0);
        for (int i = 0; i < touches; i++) {
            x.touch(2 * i + 1, true, true);
        }
        if (hasBonus) {
            x.bonus();
        }
        for (int i = 0; i < struggles; i++) {
            x.struggle(1);
        }
        return x;
    }

    private static void breath(Check check) {
        check.is("a return in 30 seconds", longRaid(1, 5, false).comeBack(), 1);
        Raidline x = longRaid(3, 4, false);
        check.is("a return in 31 seconds", x.comeBack(), 0);
        check.is("the raider is out", Games.out(x, 0), "0");
        check.is("one point", x.points(1), 1);
        check.is("touches count for nothing", Games.mat(x, 1), "1 3 5 7 9 11 13");
        check.isIllegalState("it did not end by a return", () -> x.review(0, 1));
        check.is("a touch in 30 seconds", longRaid(4, 3, false).touch(9, true, true), 30);
        Raidline y = longRaid(1, 5, false);
        check.is("a touch in 31 seconds", y.touch(3, true, true), -1);
        check.is("it ends the raid", y.raids(), 1);
        check.is("a struggle in 30 seconds", longRaid(0, 5, false).struggle(1), 30);
        Raidline z = longRaid(2, 4, false);
        check.is("a struggle in 31 seconds", z.struggle(1), -1);
        check.is("out of breath is no tackle", z.told(1, 't'), 0);
        check.is("a bonus in 30 seconds", longRaid(2, 4, false).bonus(), 30);
        Raidline u = longRaid(4, 3, false);
        check.is("a bonus in 31 seconds", u.bonus(), -1);
        check.is("it brings no point", u.points(0), 0);
        Raidline v = longRaid(1, 5, false);
        check.isUnsupported("what is refused ends no raid", () -> v.touch(1, true, true));
        check.isIllegalArgument("nor here", () -> v.struggle(0));
        check.is("the raid goes on", v.comeBack(), 1);
    }

    private static void breathKeepsPoints(Check check) {
        Raidline x = longRaid(2, 4, true);
        x.stepOut(5);
        check.is("at 30 seconds a return is too late, but tells bonus and steps", x.comeBack(), 2);
        check.is("bonus and step out count", x.points(0), 2);
        check.is("one point for the defenders", x.points(1), 1);
        check.is("the step out brought the raider back", Games.mat(x, 0), "0 2 4 6 8 10 12");
        check.is("the raider's out brought the defender back", Games.out(x, 1), "");
        Raidline y = Games.squads(2, 3, 9, 6, 1);
        y.edition(3, 1, true, 4);
        y.begin(0, 1, false);
        y.raid(0);
        for (int i = 0; i < 6; i++) {
            y.struggle(1);
        }
        check.is("out of breath", y.struggle(1), -1);
        check.is("2 points against 3", y.points(1), 2);
    }
}

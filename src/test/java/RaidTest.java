import java.util.function.Supplier;

/** "Raids", and promises 20 to 25: what happens in a raid. */
final class RaidTest {
    private static final int[] NO_PLAYERS = {8, 40, -1, Integer.MIN_VALUE, Integer.MAX_VALUE};

    private RaidTest() {
    }

    static void run(Check check) {
        raiders(check);
        noSuchRaider(check);
        oneRaidAtOnce(check);
        defendersOnTheMat(check);
        touchSeconds(check);
        noSuchDefender(check);
        touchWithoutRaid(check);
        touchedTwice(check);
        quickTouches(check);
        realAndCalled(check);
        bonusSeconds(check);
        oneBonus(check);
        bonusDefenders(check);
        bonusAtOnce(check);
        bonusWithoutRaid(check);
        stepsOut(check);
        stepOutOfOthers(check);
        stepOutWithoutRaid(check);
        returns(check);
        returnWithoutRaid(check);
        thirtySeconds(check);
        thirtyOneSeconds(check);
        outOfBreath(check);
    }

    /** Player 0 of side 0 raids; 1, 3 and 5 defend; 6 and 7 are on the benches. */
    private static Raidline raid() {
        Raidline game = Games.match(4, 3, 1, true, 4);
        game.raid(0);
        return game;
    }

    private static Raidline pause() {
        return Games.match(4, 3, 1, true, 4);
    }

    private static void raiders(Check check) {
        check.by("Raids", "A raid is by a raider of the squad in turn who stands on the mat,");
        check.by("20", "Begins a raid.");
        check.by("20", "Returns whether it is do or die.");
        check.by("20", "Throws `UnsupportedOperationException` if the player does not stand on the mat for the side in turn");
        check.is("the first on the mat", pause().raid(0), false);
        check.is("the last on the mat", pause().raid(4), false);
        check.unsupported("one of the other side", RaidTest::pause, x -> x.raid(1));
        check.unsupported("one on the bench", RaidTest::pause, x -> x.raid(6));
        check.unsupported("one on the other bench", RaidTest::pause, x -> x.raid(7));
        Supplier<Raidline> second = Games.then(RaidTest::raid, x -> {
            x.touch(3, true, true);
            x.comeBack();
        });
        check.unsupported("one who is out", second, x -> x.raid(3));
        check.unsupported("one of the side that has raided", second, x -> x.raid(0));
        check.is("one of the side in turn", second.get().raid(5), false);
        check.unsupported("one who sits out", Games.then(RaidTest::pause, x -> x.card(0, 'y')), x -> x.raid(0));
        check.unsupported("one with a red card", Games.then(RaidTest::pause, x -> x.card(0, 'r')), x -> x.raid(0));
        check.is("one with a green card", Games.then(RaidTest::pause, x -> x.card(0, 'g')).get().raid(0), false);
        check.is("one from the bench as a substitute", Games.then(RaidTest::pause, x -> x.substitute(0, 6)).get().raid(6), false);
        check.unsupported("one of a third squad", Games.then(RaidTest::pause, x -> x.player(5, 5, 5, 'c')), x -> x.raid(8));
    }

    private static void noSuchRaider(Check check) {
        check.by("20", "Throws `IndexOutOfBoundsException` if there is no such player");
        for (int player : NO_PLAYERS) {
            check.outOfBounds("raid(" + player + ")", RaidTest::pause, x -> x.raid(player));
        }
    }

    private static void oneRaidAtOnce(Check check) {
        check.by("20", "Throws `IllegalStateException` if no match goes on, or a raid does");
        check.illegalState("a raid without a match", () -> Games.squads(2, 3, 5, 5, 5), x -> x.raid(0));
        check.illegalState("a raid behind a match", Games.then(RaidTest::pause, Games::playOut), x -> x.raid(0));
        check.illegalState("a raid in a raid", RaidTest::raid, x -> x.raid(2));
        check.illegalState("the same raid twice", RaidTest::raid, x -> x.raid(0));
        Raidline y = raid();
        y.comeBack();
        check.is("a raid behind a raid", y.raid(1), false);
    }

    private static void defendersOnTheMat(Check check) {
        check.by("Raids", "against the defenders on the mat then;");
        check.by("21", "Throws `UnsupportedOperationException` if the player is no defender on the mat,");
        check.is("the first defender", raid().touch(1, true, true), 3);
        check.is("the last defender", raid().touch(5, true, true), 3);
        check.unsupported("one on the bench", RaidTest::raid, x -> x.touch(7, true, true));
        check.unsupported("one of the raiders", RaidTest::raid, x -> x.touch(2, true, true));
        check.unsupported("the raider", RaidTest::raid, x -> x.touch(0, true, true));
        check.unsupported("one who stepped out", Games.then(RaidTest::raid, x -> x.stepOut(3)), x -> x.touch(3, true, true));
        check.unsupported("one who sits out", Games.then(RaidTest::pause, x -> {
            x.card(3, 'y');
            x.raid(0);
        }), x -> x.touch(3, true, true));
        check.unsupported("one who is out", Games.then(() -> Games.match(4, 3, 1, false, 4), x -> {
            Games.touchRaid(x, 1);
            Games.emptyRaids(x, 1);
            x.raid(0);
        }), x -> x.touch(1, true, true));
    }

    private static void touchSeconds(Check check) {
        check.by("Raids", "A touch of a defender who is not touched yet takes 3 seconds,");
        check.by("21", "Touches a defender.");
        check.by("21", "Returns the seconds,");
        Raidline x = raid();
        check.is("one touch", x.touch(5, true, true), 3);
        check.is("two touches", x.touch(1, false, false), 6);
        check.is("three touches", x.touch(3, true, false), 9);
        x.comeBack();
        x.raid(3);
        check.is("the next raid begins anew", x.touch(0, true, true), 3);
    }

    private static void noSuchDefender(Check check) {
        check.by("21", "Throws `IndexOutOfBoundsException` if there is no such player");
        for (int player : NO_PLAYERS) {
            check.outOfBounds("touch of " + player, RaidTest::raid, x -> x.touch(player, true, true));
        }
    }

    private static void touchWithoutRaid(Check check) {
        check.by("21", "Throws `IllegalStateException` if no raid goes on");
        check.illegalState("touch without a match", () -> Games.squads(2, 3, 5, 5, 5), x -> x.touch(1, true, true));
        check.illegalState("touch ahead of a raid", RaidTest::pause, x -> x.touch(1, true, true));
        check.illegalState("touch behind a raid", Games.then(RaidTest::raid, Raidline::comeBack), x -> x.touch(1, true, true));
        check.illegalState("touch behind a match", Games.then(RaidTest::pause, Games::playOut), x -> x.touch(1, true, true));
    }

    private static void touchedTwice(Check check) {
        check.by("21", "or is touched");
        check.unsupported("touched and called", Games.then(RaidTest::raid, x -> x.touch(1, true, true)), x -> x.touch(1, true, true));
        check.unsupported("touched, not called", Games.then(RaidTest::raid, x -> x.touch(1, true, false)), x -> x.touch(1, true, true));
        check.unsupported("touched, neither", Games.then(RaidTest::raid, x -> x.touch(1, false, false)), x -> x.touch(1, false, false));
        Supplier<Raidline> struggle = Games.then(() -> Games.strongRaiders(4, 4, true), x -> Games.struggles(x, 1));
        check.unsupported("touched by a struggle", struggle, x -> x.touch(1, true, true));
        check.is("not in the struggle", struggle.get().touch(3, true, true), 8);
        Raidline y = raid();
        y.touch(1, true, false);
        y.comeBack();
        Games.emptyRaids(y, 1);
        y.raid(0);
        check.is("touched in the raid before", y.touch(1, true, true), 3);
    }

    /** The raider has this speed, all others another one. */
    private static Raidline raidBySpeed(int speed, int others) {
        Raidline game = new Raidline();
        game.squad();
        game.squad();
        for (int i = 0; i < 6; i++) {
            Games.buy(game, game.player(5, i == 2 ? speed : others, 1, 'c'), i % 2);
        }
        game.edition(3, 1, true, 4);
        game.begin(0, 1, false);
        game.raid(2);
        return game;
    }

    private static void quickTouches(Check check) {
        check.by("Raids", "less 1 for a speed of 7 or more;");
        for (int speed = 1; speed <= 9; speed++) {
            check.is("a touch with speed " + speed, raidBySpeed(speed, 5).touch(1, true, true), speed >= 7 ? 2 : 3);
        }
        check.is("the defender's speed is none of it", raidBySpeed(6, 9).touch(1, true, true), 3);
        check.is("nor does a slow one hold", raidBySpeed(7, 1).touch(1, true, true), 2);
        Raidline x = raidBySpeed(9, 5);
        check.is("a quick bonus", x.bonus(), 4);
        check.is("a quick struggle", x.struggle(1), 9);
        check.is("a quick touch", x.touch(3, true, true), 11);
    }

    private static void realAndCalled(Check check) {
        check.by("Raids", "it is told whether it is real, and whether it is called; what is called counts.");
        Raidline x = Games.match(4, 4, 1, true, 4);
        x.raid(0);
        x.touch(1, true, true);
        x.touch(3, true, false);
        x.touch(5, false, true);
        x.touch(7, false, false);
        check.is("points", x.comeBack(), 2);
        check.is("out", Games.out(x, 1), "1 5");
        check.is("on the mat", Games.mat(x, 1), "3 7");
    }

    private static void bonusSeconds(Check check) {
        check.by("Raids", "The bonus takes 4 seconds,");
        check.by("22", "Takes the bonus.");
        check.by("22", "Returns the seconds,");
        Raidline x = raid();
        check.is("a bonus", x.bonus(), 4);
        check.is("a touch behind it", x.touch(1, true, true), 7);
        Raidline y = raid();
        y.touch(1, true, true);
        check.is("a bonus behind a touch", y.bonus(), 7);
    }

    private static void oneBonus(Check check) {
        check.by("Raids", "once in a raid,");
        check.by("22", "Throws `UnsupportedOperationException` if it is taken,");
        Supplier<Raidline> taken = Games.then(RaidTest::raid, Raidline::bonus);
        check.unsupported("a second bonus", taken, Raidline::bonus);
        Raidline y = taken.get();
        y.comeBack();
        y.raid(1);
        check.is("a bonus in the next raid", y.bonus(), 4);
        y.comeBack();
        Games.emptyRaids(y, 2);
        y.raid(3);
        check.is("a bonus of the same side", y.bonus(), 4);
    }

    private static Raidline raidAgainst(int onMat, int from) {
        Raidline game = Games.match(7, onMat, from, true, 4);
        game.raid(0);
        return game;
    }

    private static void bonusDefenders(Check check) {
        check.by("Raids", "if as many defenders as the edition tells, or more, stood there as the raid began;");
        check.by("22", "or there are too few defenders");
        for (int from = 3; from <= 7; from++) {
            int least = from;
            check.is("as many defenders", raidAgainst(from, from).bonus(), 4);
            check.is("more defenders", raidAgainst(7, from).bonus(), 4);
            if (from > 3) {
                check.unsupported("1 too few of " + from, () -> raidAgainst(least - 1, least), Raidline::bonus);
            }
        }
        Raidline x = raidAgainst(3, 3);
        x.stepOut(1);
        x.stepOut(3);
        check.is("those who stepped out stood there", x.bonus(), 4);
        Supplier<Raidline> second = Games.then(() -> Games.match(4, 4, 4, false, 4), y -> {
            Games.touchRaid(y, 1);
            Games.emptyRaids(y, 1);
            y.raid(0);
        });
        check.unsupported("one was out as the raid began", second, Raidline::bonus);
    }

    private static void bonusAtOnce(Check check) {
        check.by("Raids", "it is a point at once.");
        Raidline x = raid();
        x.bonus();
        check.is("points in the raid", Games.points(x), "1:0");
        check.is("the return", x.comeBack(), 1);
        check.is("points behind it", Games.points(x), "1:0");
    }

    private static void bonusWithoutRaid(Check check) {
        check.by("22", "Throws `IllegalStateException` if no raid goes on");
        check.illegalState("bonus of a new object", Raidline::new, Raidline::bonus);
        check.illegalState("bonus ahead of a raid", RaidTest::pause, Raidline::bonus);
        check.illegalState("bonus behind a raid", Games.then(RaidTest::raid, Raidline::comeBack), Raidline::bonus);
        check.illegalState("bonus behind a match", Games.then(RaidTest::pause, Games::playOut), Raidline::bonus);
    }

    private static void stepsOut(Check check) {
        check.by("Raids", "A defender can step out: this one is out at once, touched or not, for a point at once.");
        check.by("24", "Lets a defender step out.");
        check.by("24", "Returns how many defenders stand there then.");
        Raidline x = raid();
        x.touch(3, true, true);
        check.is("two stand there", x.stepOut(3), 2);
        check.is("out at once", Games.out(x, 1), "3");
        check.is("a point at once", Games.points(x), "1:0");
        check.is("one stands there", x.stepOut(1), 1);
        check.is("out behind the other one", Games.out(x, 1), "3 1");
        check.is("a point more", Games.points(x), "2:0");
        check.is("it takes no seconds", x.touch(5, true, false), 6);
        check.is("none stands there", x.stepOut(5), 0);
        check.is("the raid goes on", x.raids(), 0);
        check.is("a touch of one who stepped out is no second point", x.comeBack(), 3);
        check.is("but an all out is two more", Games.points(x), "5:0");
    }

    private static void stepOutOfOthers(Check check) {
        check.by("24", "Throws `UnsupportedOperationException` if the player is no defender on the mat");
        check.unsupported("stepOut of a raider", RaidTest::raid, x -> x.stepOut(2));
        check.unsupported("stepOut of the raider", RaidTest::raid, x -> x.stepOut(0));
        check.unsupported("stepOut from the bench", RaidTest::raid, x -> x.stepOut(7));
        check.unsupported("stepOut twice", Games.then(RaidTest::raid, x -> x.stepOut(1)), x -> x.stepOut(1));
        check.by("24", "Throws `IndexOutOfBoundsException` if there is no such player");
        for (int player : NO_PLAYERS) {
            check.outOfBounds("stepOut of " + player, RaidTest::raid, x -> x.stepOut(player));
        }
    }

    private static void stepOutWithoutRaid(Check check) {
        check.by("24", "Throws `IllegalStateException` if no raid goes on");
        check.illegalState("stepOut without a match", () -> Games.squads(2, 3, 5, 5, 5), x -> x.stepOut(1));
        check.illegalState("stepOut ahead of a raid", RaidTest::pause, x -> x.stepOut(1));
        check.illegalState("stepOut behind a raid", Games.then(RaidTest::raid, Raidline::comeBack), x -> x.stepOut(1));
    }

    private static void returns(Check check) {
        check.by("Raids", "To return takes 2 seconds and ends the raid.");
        check.by("25", "Returns the raider.");
        check.by("25", "Returns the points that the raid brought to the raiders by touches, bonus and steps out,");
        Raidline x = raid();
        check.is("an empty raid", x.comeBack(), 0);
        check.is("the raid is over", x.raids() + " " + x.turn(), "1 1");
        check.is("the raider stays", Games.mat(x, 0), "0 2 4");
        x.raid(1);
        x.bonus();
        check.is("a bonus", x.comeBack(), 1);
        x = raid();
        x.touch(1, true, true);
        check.is("a touch", x.comeBack(), 1);
        x = raid();
        x.stepOut(1);
        check.is("a step out", x.comeBack(), 1);
        x = raid();
        x.bonus();
        x.stepOut(1);
        x.touch(3, true, true);
        x.touch(5, true, false);
        check.is("one of each", x.comeBack(), 3);
        x = raid();
        x.touch(1, true, true);
        x.touch(3, true, true);
        x.touch(5, true, true);
        check.is("not the points of an all out", x.comeBack(), 3);
        check.is("which come as well", Games.points(x), "5:0");
    }

    private static void returnWithoutRaid(Check check) {
        check.by("25", "Throws `IllegalStateException` if no raid goes on");
        check.illegalState("comeBack of a new object", Raidline::new, Raidline::comeBack);
        check.illegalState("comeBack ahead of a raid", RaidTest::pause, Raidline::comeBack);
        check.illegalState("comeBack twice", Games.then(RaidTest::raid, Raidline::comeBack), Raidline::comeBack);
        check.illegalState("comeBack of one who is caught", Games.then(() -> Games.weakRaiders(3, 3, true), x -> {
            Games.raid(x);
            x.struggle(1);
        }), Raidline::comeBack);
    }

    /** A raid of strong raiders against 7 with so many seconds of touches, 3 each, bonus, 4, and struggles, 5 each. */
    private static Raidline longRaid(int touches, boolean hasBonus, int struggles) {
        Raidline game = Games.strongRaiders(7, 7, true);
        game.raid(0);
        for (int i = 0; i < touches; i++) {
            game.touch(2 * i + 1, true, true);
        }
        if (hasBonus) {
            game.bonus();
        }
        for (int i = 0; i < struggles; i++) {
            game.struggle(1);
        }
        return game;
    }

    private static void thirtySeconds(Check check) {
        check.by("Raids", "it lasts 30 seconds at most.");
        check.is("a touch at 27", longRaid(4, false, 3).touch(9, true, true), 30);
        check.is("a bonus at 26", longRaid(2, false, 4).bonus(), 30);
        check.is("a struggle at 25", longRaid(0, false, 5).struggle(1), 30);
        Raidline x = longRaid(1, false, 5);
        check.is("a return at 28", x.comeBack() + " " + Games.out(x, 0), "1 ");
        Raidline quick = Games.match(7, 9, 9, 1, 7, 1, true, 4);
        quick.raid(0);
        quick.bonus();
        for (int i = 0; i < 4; i++) {
            quick.touch(2 * i + 1, true, true);
        }
        quick.struggle(1);
        quick.struggle(1);
        quick.touch(9, true, true);
        quick.touch(11, true, true);
        check.is("a quick touch at 26 and 28", quick.touch(13, true, true) + quick.raids(), 28);
        Raidline step = longRaid(0, false, 6);
        check.is("a step out at 30", step.stepOut(3), 6);
        check.is("it takes no breath", step.raids(), 0);
    }

    private static void thirtyOneSeconds(Check check) {
        check.by("Raids", "A raider whose seconds are above 30 by an act is out instead of it, which ends the raid.");
        check.by("21", "-1 if the raider is out of breath.");
        Raidline touch = longRaid(1, false, 5);
        check.is("a touch at 28", touch.touch(3, true, true) + " " + lost(touch), "-1 0:1 0 1");
        check.is("the raider is out", Games.out(longRaid(0, false, 7), 0), "0");
        check.by("22", "-1 if the raider is out of breath.");
        Raidline bonus = longRaid(4, false, 3);
        check.is("a bonus at 27", bonus.bonus() + " " + lost(bonus), "-1 0:1 0 1");
        check.is("which is no point", bonus.told(0, 'r'), 0);
        check.by("23", "or out of breath.");
        Raidline struggle = longRaid(2, false, 4);
        check.is("a struggle at 26", struggle.struggle(1) + " " + lost(struggle), "-1 0:1 0 1");
        check.is("which is no tackle", struggle.told(1, 't'), 0);
        Raidline back = longRaid(3, false, 4);
        check.is("a return at 29", back.comeBack() + " " + lost(back), "0 0:1 0 1");
        check.is("which takes nobody", Games.mat(back, 1), "1 3 5 7 9 11 13");
    }

    /** The points, who is out of the raiders, and how many raids are over. */
    private static String lost(Raidline x) {
        return Games.points(x) + " " + Games.out(x, 0) + " " + x.raids();
    }

    private static void outOfBreath(Check check) {
        check.by("25", "also if out of breath.");
        Raidline x = longRaid(2, true, 4);
        x.stepOut(5);
        check.is("a return at 30 with a bonus and a step out", x.comeBack(), 2);
        check.is("points", Games.points(x), "2:1");
        Raidline y = longRaid(2, true, 4);
        check.is("a return at 30 with a bonus", y.comeBack(), 1);
        check.is("points", Games.points(y), "1:1");
        Supplier<Raidline> full = () -> longRaid(0, false, 6);
        check.unsupported("a touch at 30 of one who is touched", full, z -> z.touch(1, true, true));
        check.illegalArgument("a struggle at 30 with none", full, z -> z.struggle(0));
        check.unsupported("a bonus at 30 that is taken", () -> longRaid(2, true, 4), Raidline::bonus);
    }
}

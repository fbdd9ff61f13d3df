/** "What it is": all of it in one object, and up to its last call. */
final class WhatItIsTest {
    private static final String PART = "What it is";

    private WhatItIsTest() {
    }

    static void run(Check check) {
        check.by(PART, "A breath against seven, with calls as a Java programmer would choose them:");
        Raidline x = new Raidline();
        auctions(check, x);
        firstHalf(check, x);
        secondHalf(check, x);
        extraRaids(check, x);
        goldenRaid(check, x);
        numbers(check, x);
        lastCall(check);
    }

    private static void auctions(Check check, Raidline x) {
        check.by(PART, "squads from auctions,");
        for (int squad = 0; squad < 3; squad++) {
            check.is("squad()", x.squad(), squad);
        }
        for (int player = 0; player < 10; player++) {
            check.is("player(5, 6, 5, 'c')", x.player(5, 6, 5, 'c'), player);
            Games.buy(x, player, player % 2);
            check.is("squadOf(" + player + ")", x.squadOf(player), player % 2);
        }
        check.is("player(9, 9, 9, 'a')", x.player(9, 9, 9, 'a'), 10);
        Games.buy(x, 10, 2);
        check.is("purses", x.purse(0) + " " + x.purse(1) + " " + x.purse(2), "150 150 170");
    }

    private static void firstHalf(Check check, Raidline x) {
        check.by(PART, "matches by editions,");
        check.is("edition(4, 3, true, 2)", x.edition(4, 3, true, 2), 7);
        check.is("begin(0, 1, true)", x.begin(0, 1, true), 1);
        check.is("mats", Games.mat(x, 0) + "/" + Games.mat(x, 1), "0 2 4 6/1 3 5 7");
        check.by(PART, "raids by seconds with touches, bonus, struggles and lobbies,");
        check.is("raid(0)", x.raid(0), false);
        check.is("touch(3, true, true)", x.touch(3, true, true), 3);
        check.is("bonus()", x.bonus(), 7);
        check.is("stepOut(7)", x.stepOut(7), 3);
        check.is("struggle(1)", x.struggle(1), 12);
        check.is("comeBack()", x.comeBack(), 4);
        check.by(PART, "players out");
        check.is("who is out", Games.mat(x, 1) + "/" + Games.out(x, 1) + " " + Games.points(x), "5/7 1 3 4:0");
        check.by(PART, "all outs,");
        check.is("raid(5)", x.raid(5), false);
        check.is("struggle(7)", x.struggle(7), -1);
        check.is("all are back", Games.mat(x, 1) + "/" + Games.out(x, 1) + " " + Games.points(x), "1 3 5 7/ 7:0");
    }

    private static void secondHalf(Check check, Raidline x) {
        check.by(PART, "halves,");
        check.is("the other one first", x.turn(), 1);
        x.raid(1);
        for (int i = 0; i < 4; i++) {
            check.is("a touch", x.touch(2 * i, true, true), 3 * i + 3);
        }
        check.is("bonus()", x.bonus(), 16);
        check.is("comeBack()", x.comeBack(), 5);
        check.is("an all out", Games.mat(x, 0) + "/" + Games.out(x, 0) + " " + Games.points(x), "0 2 4 6/ 7:7");
        check.by(PART, "empty raids");
        check.is("raid(2)", x.raid(2), false);
        check.is("comeBack()", x.comeBack(), 0);
        check.is("one of four", x.emptyShare(), 0.25f);
    }

    private static void extraRaids(Check check, Raidline x) {
        check.by(PART, "extra raids");
        check.is("level behind the halves", x.goesOn() + " " + x.turn(), "true 0");
        check.by(PART, "cards,");
        check.is("green, then yellow", x.card(7, 'g') + " " + x.card(7, 'g') + " " + Games.mat(x, 1), "g y 1 3 5");
        Games.emptyRaids(x, 1);
        check.by(PART, "substitutes,");
        check.is("substitute(4, 8)", x.substitute(4, 8) + " " + Games.mat(x, 0) + "/" + Games.bench(x, 0), "1 0 2 6 8/4");
        check.by(PART, "reviews,");
        x.raid(3);
        check.is("touch(0, true, false)", x.touch(0, true, false), 3);
        check.is("comeBack()", x.comeBack(), 0);
        check.is("review(1, 0)", x.review(1, 0) + " " + Games.out(x, 0) + " " + Games.points(x), "true 0 7:8");
        check.by(PART, "and do-or-die raids,");
        check.is("raid(2)", x.raid(2), true);
        check.is("comeBack()", x.comeBack(), 0);
        check.is("the raider is out", Games.mat(x, 0) + "/" + Games.out(x, 0) + " " + Games.points(x), "6 8/0 2 7:9");
        check.by(PART, "super tackles,");
        Games.struggles(x, 6);
        check.is("out of breath", x.struggle(1), -1);
        check.is("2 points", Games.points(x), "9:9");
        check.by(PART, "and revived in order,");
        check.is("who was out longest", Games.mat(x, 0) + "/" + Games.out(x, 0), "0 6 8/2");
        check.is("behind the raider, behind 4 raids", Games.mat(x, 1) + "/" + Games.out(x, 1), "3 5/1 7");
    }

    private static void goldenRaid(Check check, Raidline x) {
        check.by(PART, "and a golden raid,");
        check.is("level behind the extra raids", x.goesOn() + " " + x.turn() + " " + x.raids(), "true 0 8");
        x.raid(0);
        x.touch(3, true, true);
        check.is("comeBack()", x.comeBack(), 1);
        check.is("the end", x.goesOn() + " " + x.raids() + " " + Games.points(x), "false 9 10:9");
    }

    private static void numbers(Check check, Raidline x) {
        check.by(PART, "statistics,");
        check.is("raid points", x.told(0, 'r') + " " + x.told(1, 'r') + " " + x.told(3, 'r'), "4 5 0");
        check.is("tackle points", x.told(0, 't') + " " + x.told(4, 't') + " " + x.told(6, 't'), "1 1 0");
        check.is("super raids", x.told(0, 's') + " " + x.told(1, 's') + " " + x.told(2, 's'), "1 1 0");
        check.is("raids", x.told(0, 'n') + " " + x.told(1, 'n') + " " + x.told(2, 'n'), "3 2 2");
        check.is("empty raids", x.emptyShare(), 4.0f / 9.0f);
        check.is("mean points", x.meanPoints(), 2.0);
        check.by(PART, "values of states by chances,");
        check.is("do or die for the last raider", x.value(1, 7, 2, 0, 1, 0, 0), -3.0);
        check.by(PART, "and a league.");
        check.is("points", x.league(0) + " " + x.league(1) + " " + x.league(2), "5 1 0");
        check.is("places", x.placed(0) + " " + x.placed(1) + " " + x.placed(2), "0 1 2");
        check.is("champion()", x.champion(), 0);
        check.is("isTrue()", x.isTrue(), true);
        check.is("season()", x.season(), 11);
        check.is("points of a new season", x.league(0) + " " + x.league(1), "0 0");
    }

    /** 26 calls for the squads and one for the edition, then four matches of a begin and 40 raids of three calls. */
    private static void lastCall(Check check) {
        check.by(PART, "An object is used for at most 512 calls after it has been made; what later calls answer is free.");
        Raidline x = Games.squads(2, 3, 5, 5, 5);
        x.edition(3, 1, true, 20);
        for (int match = 1; match <= 4; match++) {
            check.is("matches", x.begin(0, 1, false), match);
            for (int i = 0; i < 40; i++) {
                int side = i < 20 ? i % 2 : 1 - i % 2;
                x.raid(side);
                x.bonus();
                check.is("raid " + i + " of match " + match, x.comeBack(), 1);
            }
        }
        check.is("the call 512", x.told(0, 'r'), 80);
    }
}

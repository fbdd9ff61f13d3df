import java.util.Random;

/**
 * Runs of calls by fixed seeds, wrong ones too, each answer compared with that of the oracle. In every other run
 * the checksum is asked for behind each call, too.
 */
final class RandomRunsTest {
    private static final int RUNS = 2000;
    private static final int CALLS = 512;

    private final Random random;
    private final Raidline game = new Raidline();
    private final Oracle oracle = new Oracle();
    private final int run;
    private int calls;
    private String wrong = "";
    private final int[] lastTouched = new int[3];
    private static int matches;
    private static int goldenRaids;
    private static int allOuts;
    private static int rightReviews;
    private static int matchedBids;
    private static int caughtRaiders;

    private RandomRunsTest(int run) {
        this.run = run;
        this.random = new Random(run);
    }

    static void run(Check check) {
        for (int i = 0; i < RUNS; i++) {
            RandomRunsTest test = new RandomRunsTest(i);
            test.play();
            check.is("random run " + i, test.wrong, "");
        }
        check.is("matches in the runs: " + matches, matches > RUNS, true);
        check.is("golden raids in the runs: " + goldenRaids, goldenRaids > 10, true);
        check.is("all outs in the runs: " + allOuts, allOuts > RUNS, true);
        check.is("reviews put right in the runs: " + rightReviews, rightReviews > RUNS / 4, true);
        check.is("matched bids in the runs: " + matchedBids, matchedBids > RUNS / 4, true);
        check.is("raiders caught in the runs: " + caughtRaiders, caughtRaiders > RUNS / 4, true);
    }

    private int under(int bound) {
        return random.nextInt(bound);
    }

    private boolean seldom() {
        return under(25) == 0;
    }

    private void same(String call, Check.Call ours, Check.Call due) {
        if (calls >= CALLS || !wrong.isEmpty()) {
            return;
        }
        calls++;
        boolean isSummed = run % 2 == 0 && calls < CALLS;
        calls += isSummed ? 1 : 0;
        boolean wasOn = oracle.goesOn();
        int before = wasOn ? oracle.points(0) + oracle.points(1) : 0;
        String answer = Check.answerOf(due);
        String got = Check.answerOf(ours);
        if (!got.equals(answer)) {
            wrong = "call " + calls + " " + call + " answered " + got + ", due is " + answer;
        } else if (isSummed && game.checksum() != oracle.checksum()) {
            wrong = "call " + calls + " " + call + " left another checksum";
        }
        count(call, answer, wasOn && !oracle.goesOn(), oracle.points(0) + oracle.points(1) - before);
    }

    private void count(String call, String answer, boolean isEnd, int more) {
        boolean isRefused = answer.startsWith("throws");
        matches += isEnd ? 1 : 0;
        goldenRaids += isEnd && oracle.raids() > 8 && oracle.raids() % 2 == 1 ? 1 : 0;
        allOuts += call.startsWith("comeBack") && more > 2 ? 1 : 0;
        rightReviews += call.startsWith("review") && answer.equals("true") ? 1 : 0;
        matchedBids += call.startsWith("match(") && !isRefused ? 1 : 0;
        caughtRaiders += call.startsWith("struggle") && answer.equals("-1") ? 1 : 0;
    }

    private void play() {
        int squads = 2 + under(3);
        int players = 8 + under(run % 3 == 0 ? 33 : 17);
        for (int i = 0; i < squads; i++) {
            same("squad()", game::squad, oracle::squad);
        }
        for (int i = 0; i < players; i++) {
            enter();
        }
        for (int i = 0; i < players; i++) {
            if (under(8) > 0) {
                deal(i, under(squads));
            }
        }
        int most = 3 + under(2);
        same("knockDown()", game::knockDown, oracle::knockDown);
        setEdition(most, 1 + under(4), 2 + 2 * under(3));
        while (calls < CALLS && wrong.isEmpty()) {
            if (!oracle.goesOn()) {
                betweenMatches(players, squads);
            } else {
                inMatch();
            }
            look();
        }
    }

    private void enter() {
        int reach = seldom() ? under(12) - 1 : 1 + under(9);
        int speed = 1 + under(9);
        int grip = seldom() ? under(12) - 1 : 1 + under(9);
        char sort = seldom() ? 'd' : "cccccba".charAt(under(7));
        same("player", () -> game.player(reach, speed, grip, sort), () -> oracle.player(reach, speed, grip, sort));
    }

    private void deal(int player, int squad) {
        same("putUp(" + player + ")", () -> game.putUp(player), () -> oracle.putUp(player));
        int price = under(3) == 0 ? 30 : 10;
        same("bid(" + squad + ", " + price + ")", () -> game.bid(squad, price), () -> oracle.bid(squad, price));
        same("knockDown()", game::knockDown, oracle::knockDown);
    }

    private void setEdition(int mat, int from, int raids) {
        boolean isRevived = under(3) > 0;
        same("edition(" + mat + ", " + from + ", " + isRevived + ", " + raids + ")",
            () -> game.edition(mat, from, isRevived, raids), () -> oracle.edition(mat, from, isRevived, raids));
    }

    private void betweenMatches(int players, int squads) {
        int choice = under(20);
        if (choice == 0) {
            same("season()", game::season, oracle::season);
        } else if (choice == 1) {
            setEdition(seldom() ? under(10) : 3 + under(3), seldom() ? under(10) : 1 + under(4), seldom() ? under(24) : 2 + 2 * under(3));
        } else if (choice < 14) {
            begin(squads);
        } else {
            auction(under(players + 1), squads);
        }
    }

    private void begin(int squads) {
        int squad = seldom() ? under(6) - 1 : under(squads);
        int other = seldom() ? under(6) - 1 : (squad + 1 + under(squads - 1)) % squads;
        boolean mustBeWon = under(3) > 0;
        same("begin(" + squad + ", " + other + ", " + mustBeWon + ")",
            () -> game.begin(squad, other, mustBeWon), () -> oracle.begin(squad, other, mustBeWon));
    }

    private void auction(int player, int squads) {
        same("putUp(" + player + ")", () -> game.putUp(player), () -> oracle.putUp(player));
        int last = 10;
        for (int i = under(4); i >= 0; i--) {
            int squad = seldom() ? 5 : under(squads);
            int price = last + under(12) - 1;
            last = Math.max(last, price);
            same("bid(" + squad + ", " + price + ")", () -> game.bid(squad, price), () -> oracle.bid(squad, price));
            if (seldom()) {
                int offer = under(260);
                same("bid(" + squad + ", " + offer + ")", () -> game.bid(squad, offer), () -> oracle.bid(squad, offer));
            }
        }
        if (under(4) == 0) {
            int squad = under(squads);
            same("match(" + squad + ")", () -> game.match(squad), () -> oracle.match(squad));
        }
        if (!seldom()) {
            same("knockDown()", game::knockDown, oracle::knockDown);
        }
    }

    private int someone(int side) {
        if (seldom() || !oracle.goesOn()) {
            return under(41) - 1;
        }
        return oracle.matAt(side, under(Math.max(1, oracle.onMat(side))));
    }

    private void inMatch() {
        if (under(3) == 0) {
            pause();
        }
        if (!oracle.goesOn()) {
            return;
        }
        int raiders = oracle.turn();
        int raider = someone(raiders);
        same("raid(" + raider + ")", () -> game.raid(raider), () -> oracle.raid(raider));
        int acts = under(3) == 0 ? 0 : under(under(12) == 0 ? 12 : 5);
        for (int i = 0; i < acts; i++) {
            act(raiders);
            if (under(12) == 0) {
                look();
            }
        }
        if (!seldom()) {
            same("comeBack()", game::comeBack, oracle::comeBack);
        }
    }

    private void act(int raiders) {
        int choice = under(10);
        if (choice < 5) {
            int defender = anyone(1 - raiders);
            boolean isReal = under(2) == 0;
            boolean isCalled = under(2) == 0;
            lastTouched[under(lastTouched.length)] = defender;
            same("touch(" + defender + ", " + isReal + ", " + isCalled + ")",
                () -> game.touch(defender, isReal, isCalled), () -> oracle.touch(defender, isReal, isCalled));
        } else if (choice < 6) {
            same("bonus()", game::bonus, oracle::bonus);
        } else if (choice < 9) {
            int bits = seldom() ? under(1 << 9) - 1 : 1 << under(4) | (under(3) == 0 ? 1 << under(4) : 0);
            same("struggle(" + bits + ")", () -> game.struggle(bits), () -> oracle.struggle(bits));
        } else {
            int defender = anyone(1 - raiders);
            same("stepOut(" + defender + ")", () -> game.stepOut(defender), () -> oracle.stepOut(defender));
        }
    }

    /** Someone on the mat while there is one. */
    private int anyone(int side) {
        return oracle.goesOn() && oracle.onMat(side) > 0 ? someone(side) : under(41) - 1;
    }

    private void pause() {
        int side = under(2);
        int choice = under(4);
        if (choice == 0) {
            int player = under(2) == 0 ? under(20) : anyone(side);
            char card = seldom() ? 'x' : "ggggyyr".charAt(under(7));
            same("card(" + player + ", " + card + ")", () -> game.card(player, card), () -> oracle.card(player, card));
        } else if (choice == 1) {
            int player = anyone(side);
            int other = under(20);
            same("substitute(" + player + ", " + other + ")",
                () -> game.substitute(player, other), () -> oracle.substitute(player, other));
        } else {
            int asking = seldom() ? under(4) - 1 : under(2);
            for (int i = under(3); i >= 0; i--) {
                int player = seldom() ? under(41) - 1 : lastTouched[under(lastTouched.length)];
                same("review(" + asking + ", " + player + ")",
                    () -> game.review(asking, player), () -> oracle.review(asking, player));
            }
        }
    }

    private void look() {
        int side = seldom() ? under(4) - 1 : under(2);
        int index = under(9) - 1;
        int player = under(20);
        int squad = under(5) - 1;
        switch (under(40)) {
            case 0 -> same("turn()", game::turn, oracle::turn);
            case 1 -> same("raids()", game::raids, oracle::raids);
            case 2 -> same("points(" + side + ")", () -> game.points(side), () -> oracle.points(side));
            case 3 -> same("onMat(" + side + ")", () -> game.onMat(side), () -> oracle.onMat(side));
            case 4 -> same("matAt", () -> game.matAt(side, index), () -> oracle.matAt(side, index));
            case 5 -> same("outAt", () -> game.outAt(side, index), () -> oracle.outAt(side, index));
            case 6 -> same("benchAt", () -> game.benchAt(side, index), () -> oracle.benchAt(side, index));
            case 7, 8, 9 -> {
                char what = seldom() ? 'x' : "rtsn".charAt(under(4));
                same("told(" + player + ", " + what + ")", () -> game.told(player, what), () -> oracle.told(player, what));
            }
            case 10 -> same("goesOn()", game::goesOn, oracle::goesOn);
            case 11 -> same("league(" + squad + ")", () -> game.league(squad), () -> oracle.league(squad));
            case 12 -> same("placed(" + squad + ")", () -> game.placed(squad), () -> oracle.placed(squad));
            case 13 -> same("champion()", game::champion, oracle::champion);
            case 14 -> same("emptyShare()", game::emptyShare, oracle::emptyShare);
            case 15 -> same("meanPoints()", game::meanPoints, oracle::meanPoints);
            case 16 -> same("checksum()", game::checksum, oracle::checksum);
            case 17, 18 -> same("isTrue()", game::isTrue, oracle::isTrue);
            case 19 -> same("squadOf(" + player + ")", () -> game.squadOf(player), () -> oracle.squadOf(player));
            case 20 -> same("purse(" + squad + ")", () -> game.purse(squad), () -> oracle.purse(squad));
            default -> { }
        }
    }
}

/** What a game answers from here on, to looks at all of it and to calls that bring out what looks don't show. */
final class Trail {
    /** By rising bids; by the end of the auction and one more season; by the raid that goes on and the next ones. */
    enum Kind { BIDS, SEASONS, RAIDS }

    private static final int PLAYERS = 8;
    private static final int SQUADS = 4;

    private final Raidline game;
    private final StringBuilder answers = new StringBuilder();

    private Trail(Raidline game) {
        this.game = game;
    }

    /** The first answer in which two games differ, or "nothing". */
    static String difference(Kind kind, Raidline game, Raidline other) {
        String[] ours = new Trail(game).answers(kind).split("\n");
        String[] due = new Trail(other).answers(kind).split("\n");
        for (int i = 0; i < ours.length && i < due.length; i++) {
            if (!ours[i].equals(due[i])) {
                return ours[i] + ", without it " + due[i];
            }
        }
        return "nothing";
    }

    private String answers(Kind kind) {
        look();
        switch (kind) {
            case BIDS -> bids();
            case SEASONS -> seasons();
            default -> raids();
        }
        look();
        return answers.toString();
    }

    private void ask(String call, Check.Call made) {
        answers.append(call).append(" = ").append(Check.answerOf(made)).append('\n');
    }

    private void look() {
        for (int i = 0; i < 2; i++) {
            int side = i;
            ask("points(" + side + ")", () -> game.points(side));
            ask("mat of " + side, () -> Games.mat(game, side));
            ask("out of " + side, () -> Games.out(game, side));
            ask("bench of " + side, () -> Games.bench(game, side));
        }
        for (int i = 0; i < SQUADS; i++) {
            int squad = i;
            ask("purse(" + squad + ")", () -> game.purse(squad));
            ask("league(" + squad + ")", () -> game.league(squad));
            ask("placed(" + squad + ")", () -> game.placed(squad));
        }
        for (int i = 0; i < PLAYERS; i++) {
            int player = i;
            ask("squadOf(" + player + ")", () -> game.squadOf(player));
            ask("numbers of " + player, () -> game.told(player, 'r') + " " + game.told(player, 't')
                + " " + game.told(player, 's') + " " + game.told(player, 'n'));
        }
        ask("turn()", game::turn);
        ask("raids()", game::raids);
        ask("goesOn()", game::goesOn);
        ask("emptyShare()", game::emptyShare);
        ask("meanPoints()", game::meanPoints);
        ask("champion()", game::champion);
        ask("checksum()", game::checksum);
        ask("isTrue()", game::isTrue);
    }

    private void bids() {
        for (int price = 9; price < 60; price++) {
            int squad = price % 3;
            int offer = price;
            ask("bid(" + squad + ", " + offer + ")", () -> game.bid(squad, offer));
        }
        ask("knockDown()", game::knockDown);
    }

    private void seasons() {
        ask("knockDown()", game::knockDown);
        ask("edition()", () -> game.edition(3, 1, true, 2));
        look();
        ask("season()", game::season);
        for (int i = 0; i < SQUADS; i++) {
            int player = i;
            ask("putUp(" + player + ")", () -> game.putUp(player));
            ask("bid(3, 30)", () -> game.bid(3, 30));
            ask("bid(2, 35)", () -> game.bid(2, 35));
            for (int j = 0; j < SQUADS; j++) {
                int squad = j;
                ask("match(" + squad + ")", () -> game.match(squad));
            }
            ask("knockDown()", game::knockDown);
        }
        ask("player()", () -> game.player(1, 2, 3, 'a'));
        ask("squad()", game::squad);
    }

    private void raids() {
        for (int i = 0; i < PLAYERS; i++) {
            int player = i;
            ask("touch(" + player + ")", () -> game.touch(player, true, false));
        }
        ask("bonus()", game::bonus);
        ask("struggle(1)", () -> game.struggle(1));
        ask("comeBack()", game::comeBack);
        pause();
        for (int i = 0; i < 4; i++) {
            ask("raid", () -> game.raid(game.matAt(game.turn(), 0)));
            ask("comeBack()", game::comeBack);
        }
        ask("begin(0, 1, false)", () -> game.begin(0, 1, false));
    }

    private void pause() {
        for (int i = 0; i < PLAYERS; i++) {
            int player = i;
            ask("review(0, " + player + ")", () -> game.review(0, player));
            ask("review(1, " + player + ")", () -> game.review(1, player));
        }
        for (int i = 0; i < 2; i++) {
            int side = i;
            ask("substitute of " + side, () -> game.substitute(game.matAt(side, 0), game.benchAt(side, 0)));
        }
        for (int i = 0; i < PLAYERS; i++) {
            int player = i;
            ask("card(" + player + ")", () -> game.card(player, 'g'));
        }
    }
}

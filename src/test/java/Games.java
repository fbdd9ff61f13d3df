/** Objects of Raidline with squads and matches, as tests need them. */
final class Games {
    private Games() {
    }

    /** Some squads with players by turns, all alike: the first squad has 0, then the second one 1, and so on. */
    static Raidline squads(int squads, int each, int reach, int speed, int grip) {
        Raidline game = new Raidline();
        for (int i = 0; i < squads; i++) {
            game.squad();
        }
        for (int i = 0; i < squads * each; i++) {
            game.player(reach, speed, grip, 'c');
        }
        dealOut(game, squads, squads * each);
        return game;
    }

    /** Knocks the first players down to the squads by turns. */
    static void dealOut(Raidline game, int squads, int players) {
        for (int player = 0; player < players; player++) {
            buy(game, player, player % squads);
        }
    }

    static void buy(Raidline game, int player, int squad) {
        game.bid(squad, game.putUp(player));
        game.knockDown();
    }

    /** A match of two squads: even players for side 0, odd ones for side 1. */
    static Raidline match(int each, int onMat, int bonusFrom, boolean isRevived, int raids) {
        Raidline game = squads(2, each, 5, 5, 5);
        game.edition(onMat, bonusFrom, isRevived, raids);
        game.begin(0, 1, false);
        return game;
    }

    /** A raid that is empty, by the first player on the mat of the side in turn. */
    static void emptyRaid(Raidline game) {
        game.raid(game.matAt(game.turn(), 0));
        game.comeBack();
    }

    /** A raid with a bonus alone. */
    static void bonusRaid(Raidline game) {
        game.raid(game.matAt(game.turn(), 0));
        game.bonus();
        game.comeBack();
    }

    /** A raid that touches the first of the defenders on the mat. */
    static void touchRaid(Raidline game, int touches) {
        int side = game.turn();
        game.raid(game.matAt(side, 0));
        for (int i = 0; i < touches; i++) {
            game.touch(game.matAt(1 - side, i), true, true);
        }
        game.comeBack();
    }

    static String mat(Raidline game, int side) {
        StringBuilder line = new StringBuilder();
        for (int i = 0; i < game.onMat(side); i++) {
            line.append(i == 0 ? "" : " ").append(game.matAt(side, i));
        }
        return line.toString();
    }

    static String out(Raidline game, int side) {
        return line(index -> game.outAt(side, index));
    }

    static String bench(Raidline game, int side) {
        return line(index -> game.benchAt(side, index));
    }

    private static String line(java.util.function.IntUnaryOperator at) {
        StringBuilder line = new StringBuilder();
        for (int i = 0; i < 40; i++) {
            try {
                line.append(i == 0 ? "" : " ").append(at.applyAsInt(i));
            } catch (java.util.NoSuchElementException end) {
                break;
            }
        }
        return line.toString().trim();
    }
}

import java.util.function.Consumer;
import java.util.function.IntUnaryOperator;
import java.util.function.Supplier;

/** Objects of Raidline with squads and matches, as tests need them. */
final class Games {
    private Games() {
    }

    /** Three squads, and a player of each sort: 0 is an 'a', 1 a 'b', 2 a 'c'. */
    static Raidline ofSorts() {
        Raidline game = new Raidline();
        for (int i = 0; i < 3; i++) {
            game.squad();
            game.player(5, 5, 5, (char) ('a' + i));
        }
        return game;
    }

    /** Some squads with players by turns, all alike: the first squad has 0, then the second one 1, and so on. */
    static Raidline squads(int squads, int each, int reach, int speed, int grip) {
        Raidline game = new Raidline();
        for (int i = 0; i < squads; i++) {
            game.squad();
        }
        for (int i = 0; i < squads * each; i++) {
            game.player(reach, speed, grip, 'c');
        }
        for (int player = 0; player < squads * each; player++) {
            buy(game, player, player % squads);
        }
        return game;
    }

    static void buy(Raidline game, int player, int squad) {
        game.bid(squad, game.putUp(player));
        game.knockDown();
    }

    /** A match of two squads: even players for side 0, odd ones for side 1. */
    static Raidline match(int each, int onMat, int bonusFrom, boolean isRevived, int raids) {
        return match(each, 5, 5, 5, onMat, bonusFrom, isRevived, raids);
    }

    static Raidline match(int each, int reach, int speed, int grip, int onMat, int bonusFrom, boolean isRevived, int raids) {
        Raidline game = squads(2, each, reach, speed, grip);
        game.edition(onMat, bonusFrom, isRevived, raids);
        game.begin(0, 1, false);
        return game;
    }

    /** A match of weak raiders against strong defenders: each struggle ends the raid. */
    static Raidline weakRaiders(int each, int onMat, boolean isRevived) {
        return match(each, 1, 1, 9, onMat, 1, isRevived, 20);
    }

    /** A match of strong raiders without haste: a touch takes 3 seconds, and no struggle ends the raid. */
    static Raidline strongRaiders(int each, int onMat, boolean isRevived) {
        return match(each, 9, 6, 1, onMat, 1, isRevived, 20);
    }

    /** How to begin a game, and what to call then. */
    static Supplier<Raidline> then(Supplier<Raidline> start, Consumer<Raidline> calls) {
        return () -> {
            Raidline game = start.get();
            calls.accept(game);
            return game;
        };
    }

    /** The first player on the mat of the side in turn begins a raid. */
    static boolean raid(Raidline game) {
        return game.raid(game.matAt(game.turn(), 0));
    }

    static void emptyRaids(Raidline game, int raids) {
        for (int i = 0; i < raids; i++) {
            raid(game);
            game.comeBack();
        }
    }

    /** Raids with a bonus alone. */
    static void bonusRaids(Raidline game, int raids) {
        for (int i = 0; i < raids; i++) {
            raid(game);
            game.bonus();
            game.comeBack();
        }
    }

    /** A raid that touches the first of the defenders on the mat. */
    static void touchRaid(Raidline game, int touches) {
        int side = game.turn();
        raid(game);
        for (int i = 0; i < touches; i++) {
            game.touch(game.matAt(1 - side, i), true, true);
        }
        game.comeBack();
    }

    /** A raid with some struggles with the first of the defenders, 5 seconds each; it goes on. */
    static void struggles(Raidline game, int struggles) {
        raid(game);
        for (int i = 0; i < struggles; i++) {
            game.struggle(1);
        }
    }

    /** A raid of strong raiders that runs out of breath. */
    static void breathlessRaid(Raidline game) {
        struggles(game, 7);
    }

    /** A match goes on as long as it does, without a point but by do or die. */
    static void playOut(Raidline game) {
        for (int i = 0; i < 100 && game.goesOn(); i++) {
            emptyRaids(game, 1);
        }
    }

    static String mat(Raidline game, int side) {
        return line(index -> game.matAt(side, index));
    }

    static String out(Raidline game, int side) {
        return line(index -> game.outAt(side, index));
    }

    static String bench(Raidline game, int side) {
        return line(index -> game.benchAt(side, index));
    }

    static String points(Raidline game) {
        return game.points(0) + ":" + game.points(1);
    }

    private static String line(IntUnaryOperator at) {
        StringBuilder line = new StringBuilder();
        for (int i = 0; i < 40; i++) {
            try {
                line.append(i == 0 ? "" : " ").append(at.applyAsInt(i));
            } catch (java.util.NoSuchElementException end) {
                break;
            }
        }
        return line.toString().trim();
    }
}

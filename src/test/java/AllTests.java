import java.nio.file.Files;
import java.nio.file.Path;

/** Runs every test of the project; the arguments are the paths of Raidline.java and of the document. */
public final class AllTests {
    public static void main(String[] args) throws Exception {
        Check check = new Check();
        FaceTest.run(check);
        if (args.length > 0) {
            LanguageTest.run(check, Path.of(args[0]));
        }
        ExamplesTest.run(check);
        runPromises(check);
        if (args.length > 1 && Files.exists(Path.of(args[1]))) {
            check.isWholeDocument(Path.of(args[1]));
        }
        RandomRunsTest.run(check);
        WildCallsTest.run(check);
        System.out.println("own: " + check.passed() + " passed, " + check.failed() + " failed");
        if (check.failed() > 0) {
            System.exit(1);
        }
    }

    static void runPromises(Check check) {
        PlayersTest.run(check);
        AuctionTest.run(check);
        SeasonTest.run(check);
        EditionTest.run(check);
        MatchTest.run(check);
        RaidTest.run(check);
        StruggleTest.run(check);
        PointsTest.run(check);
        CardsTest.run(check);
        SubstitutesTest.run(check);
        ReviewsTest.run(check);
        StatisticsTest.run(check);
        ValueTest.run(check);
        LeagueTest.run(check);
        SumsTest.run(check);
        ExceptionsTest.run(check);
    }
}

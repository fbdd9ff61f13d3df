import java.nio.file.Path;

/** Runs every test of the project; the argument is the path of Raidline.java. */
public final class AllTests {
    public static void main(String[] args) throws Exception {
        Check check = new Check();
        FaceTest.run(check);
        if (args.length > 0) {
            LanguageTest.run(check, Path.of(args[0]));
        }
        ExamplesTest.run(check);
        PlayersTest.run(check);
        AuctionTest.run(check);
        MatchTest.run(check);
        RaidTest.run(check);
        AfterRaidTest.run(check);
        PauseTest.run(check);
        StatisticsTest.run(check);
        ValueTest.run(check);
        LeagueTest.run(check);
        SumsTest.run(check);
        RandomRunsTest.run(check);
        System.out.println("own: " + check.passed() + " passed, " + check.failed() + " failed");
        if (check.failed() > 0) {
            System.exit(1);
        }
    }
}

import java.nio.file.Path;

/** Runs every test of the project; the arguments are the project's directory and the path of the document. */
public final class AllTests {
    public static void main(String[] args) throws Exception {
        if (args.length < 2) {
            System.out.println("needed: the project's directory and the path of the document");
            System.exit(2);
        }
        Path project = Path.of(args[0]);
        Path document = Path.of(args[1]);
        Check check = new Check();
        FaceTest.run(check, document);
        LanguageTest.run(check, project.resolve("src/main/java/Raidline.java"));
        ReadmeTest.run(check, project);
        runPromises(check);
        check.isWholeDocument(document);
        RandomRunsTest.run(check);
        WildCallsTest.run(check);
        System.out.println("own: " + check.passed() + " passed, " + check.failed() + " failed");
        if (check.failed() > 0) {
            System.exit(1);
        }
    }

    static void runPromises(Check check) {
        WhatItIsTest.run(check);
        ExamplesTest.run(check);
        PlayersTest.run(check);
        AuctionTest.run(check);
        SeasonTest.run(check);
        EditionTest.run(check);
        MatchTest.run(check);
        RaidTest.run(check);
        StruggleTest.run(check);
        PointsTest.run(check);
        CardsTest.run(check);
        SubstitutesTest.run(check);
        ReviewsTest.run(check);
        StatisticsTest.run(check);
        ValueTest.run(check);
        LeagueTest.run(check);
        SumsTest.run(check);
        ExceptionsTest.run(check);
    }
}

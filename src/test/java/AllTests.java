/** Runs all tests of the project; arguments are the paths of the class's source, the document and README.md. */
public final class AllTests {
    private AllTests() {
    }

    public static void main(String[] args) throws Exception {
        PromiseTest.run();
        TextTest.run();
        ModelTest.run();
        boundaries(args.length > 1 ? args[1] : "../shared/DOC.md");
        RoomTest.run();
        LanguageTest.run(args.length > 0 ? args[0] : "src/main/java/OathYesterday.java");
        ReadmeTest.run(args.length > 2 ? args[2] : "README.md");
        System.out.println(Check.passed + " passed, " + Check.failed + " failed");
        if (Check.failed > 0) {
            System.exit(1);
        }
    }

    private static void boundaries(String document) throws Exception {
        BoundTexts.run();
        BoundActs.run();
        BoundLives.run();
        BoundChances.run();
        BoundGames.run();
        Bound.compareWithDocument(document);
    }
}

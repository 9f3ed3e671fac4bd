/** Runs all tests of the project; the first argument is the path of the class's source. */
public final class AllTests {
    private AllTests() {
    }

    public static void main(String[] args) throws Exception {
        PromiseTest.run();
        TextTest.run();
        ModelTest.run();
        RoomTest.run();
        LanguageTest.run(args.length > 0 ? args[0] : "src/main/java/OathYesterday.java");
        System.out.println(Check.passed + " passed, " + Check.failed + " failed");
        if (Check.failed > 0) {
            System.exit(1);
        }
    }
}

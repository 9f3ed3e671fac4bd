/** Runs all tests of the project; the first argument is the path of the class's source. */
public final class AllTests {
    private AllTests() {
    }

    public static void main(String[] args) throws Exception {
        ModelTest.run();
        System.out.println(Check.passed + " passed, " + Check.failed + " failed");
        if (Check.failed > 0) {
            System.exit(1);
        }
    }
}
